theorem LR_law {La : Int} {μ μ' : Mem} {A A' : Int → Int} (s : ∀ c i, La ≤ c → c ≤ La + 6 → μ' c i = μ c i) (t : ∀ i, (0 ≤ i ∧ i ≤ 4) ∨ (11 ≤ i ∧ i ≤ 54) → A' i = A i) (h : LR μ La A) (w0 : LawR μ' La A' 0) (w1 : LawR μ' La A' 1) : LR μ' La A' := by
  obtain ⟨h1, h2, h3, h4, h5, h6, h7, _, _⟩ := h
  have t1 := t 1 (by omega)
  have t2 := t 2 (by omega)
  have t3 := t 3 (by omega)
  refine ⟨by rw [s La 0 (by omega) (by omega), t1]; exact h1, by rw [s La 1 (by omega) (by omega), t2]; exact h2, by rw [s La 2 (by omega) (by omega), t3]; exact h3, by rw [s La 3 (by omega) (by omega), t 0 (by omega)]; exact h4, by rw [s La 5 (by omega) (by omega), t 4 (by omega)]; exact h5, ?_, ?_, w0, w1⟩
  · intro l l0 l1
    rw [t2] at l1
    have l9 := h2.2.2
    have := h6 l l0 l1
    unfold LaneR at this ⊢
    rw [t1, t (11 + l) (by omega), t (20 + l) (by omega), t (29 + l) (by omega), t (38 + l) (by omega), s (La + 1) l (by omega) (by omega), s (La + 2) l (by omega) (by omega), s (La + 4) l (by omega) (by omega), s (La + 5) l (by omega) (by omega)]
    exact this
  · intro p p0 p1
    rw [t3] at p1
    have p9 := h3.2.2
    have := h7 p p0 p1
    unfold TurnR at this ⊢
    rw [t (47 + p) (by omega), s (La + 6) p (by omega) (by omega)]
    exact this
theorem mkES {n La w a K V N : Int} {T : Int → Int} {μ ρ : Mem} (h : LnS n T La μ ρ a K V N) (hw : w = 0 ∨ w = 1) (h5 : μ 2 5 = w) : ES n T La w μ (ms ρ 111 15 w) a K V N := by
  obtain ⟨⟨⟨p1, p2, p3, p4, p5, p6, p7, p8, p9, p10⟩, h2, h3, h4⟩, hD, hN⟩ := h
  obtain ⟨_, _, _, _, _, _, _, d8, d9, d10, d11, _⟩ := hD
  have r : ∀ c i, ¬ (c = 111 ∧ i = 15) → ms ρ 111 15 w c i = ρ c i := fun c i e => by rw [ms_at, if_neg e]
  have r7 := r 111 7 (by decide)
  refine ⟨⟨p1, ⟨by rw [r 111 8 (by decide)]; exact p2.1, fun i i0 i1 => by rw [r 114 i (fun q => absurd q.1 (by decide))]; exact p2.2 i i0 i1⟩, p3, p4, p5, p6, fun z => by rw [r 111 10 (by decide)]; exact p7 z, by rw [r 111 6 (by decide)]; exact p8, by rw [r 111 9 (by decide)]; exact p9, fun z => by rw [r7]; exact p10 z⟩, by rw [r 111 11 (by decide)]; exact h2, h3, h4, ms_eq .., h5, hw, d10, hN, by rw [r 115 199 (by decide)]; exact d8, d9, fun j j0 j1 => by rw [r 115 _ (fun q => absurd q.1 (by decide))]; exact d11 j j0 j1⟩
theorem unES {n La w N a' K' V' N' : Int} {T : Int → Int} {μ ρ μ' ρ' : Mem} (hD : LD La μ (ρ 115) N) (fe : FrE La μ μ') (fs : FrS ρ ρ') (hE : ES n T La w μ' ρ' a' K' V' N') (nn : N < N') (g4 : ∀ j, 0 ≤ j → j < N → ρ' 115 (200 + j) = ρ 115 (200 + j)) (ty : tyR w (fun j => ρ' 115 (200 + j)) (N' - N).toNat N [] = some [decide (w = 1)]) :
    LD La (ms (ms μ' (La + 9) w N) (La + 10) w N') ((ms (ms (ms ρ' 115 (5 + w) 1) 115 (7 + w) N) 115 (9 + w) (N' - N)) 115) N' := by
  obtain ⟨hP, _, _, hL, _, _, hw, n0, na, e8, e9, e11⟩ := hE
  have n9 := hP.1.2.1
  have an := hP.2.2.1.2
  have hLo := hL
  unfold isL at hLo
  obtain ⟨h1, h2, h3, h4, h5, h6, h7, h8, h9, h10, h11, h12, h13⟩ := hD
  have s : ∀ c i, La ≤ c → c ≤ La + 6 → ms (ms μ' (La + 9) w N) (La + 10) w N' c i = μ c i := by
    intro c i a b
    rw [ms_nc (by omega), ms_nc (by omega)]
    exact fe c i (by omega) (by omega) (by omega) (by omega)
  generalize hρ : ms (ms (ms ρ' 115 (5 + w) 1) 115 (7 + w) N) 115 (9 + w) (N' - N) = ρ2
  have t : ∀ i, i ≠ 5 + w → i ≠ 7 + w → i ≠ 9 + w → ρ2 115 i = ρ' 115 i := fun i a b c => by rw [← hρ, ms_ni c, ms_ni b, ms_ni a]
  have t5 : ρ2 115 (5 + w) = 1 := by rw [← hρ, ms_ni (by omega), ms_ni (by omega), ms_eq]
  have t7 : ρ2 115 (7 + w) = N := by rw [← hρ, ms_ni (by omega), ms_eq]
  have t9 : ρ2 115 (9 + w) = N' - N := by rw [← hρ, ms_eq]
  have tl : ∀ i, i < 199 → i ≠ 5 + w → i ≠ 7 + w → i ≠ 9 + w → ρ2 115 i = ρ 115 i := fun i x a b c => by rw [t i a b c]; exact fs 115 i (by omega) (by omega)
  have tc : ∀ j, 0 ≤ j → ρ2 115 (200 + j) = ρ' 115 (200 + j) := fun j j0 => t _ (by omega) (by omega) (by omega)
  have st : ∀ j, 0 ≤ j → j < N' → ms (ms μ' (La + 9) w N) (La + 10) w N' (La + 8) j = phi (ρ2 115 (200 + j)) := by
    intro j j0 j1
    rw [ms_nc (by omega), ms_nc (by omega), tc j j0]
    exact e11 j j0 j1
  have lw : LawR (ms (ms μ' (La + 9) w N) (La + 10) w N') La (ρ2 115) w := by
    refine .inr ⟨t5, by omega, by omega, by omega, ?_, ?_, ?_, ?_⟩
    · rw [t7, ms_nc (by omega), ms_eq]
    · rw [t7, t9, ms_eq]; omega
    · intro j j0 j1
      rw [t7, t9] at j1
      rw [t7] at j0
      exact st j (by omega) (by omega)
    · rw [t7, t9, tyR_cg2 (cd' := fun j => ρ' 115 (200 + j)) _ _ _ (fun i i0 i1 => tc i (by omega))]
      exact ty
  have lo : ∀ v, (v = 0 ∨ v = 1) → v ≠ w → LawR μ La (ρ 115) v → (ρ 115 (5 + v) = 1 → ρ 115 (7 + v) + ρ 115 (9 + v) ≤ N) → LawR (ms (ms μ' (La + 9) w N) (La + 10) w N') La (ρ2 115) v := by
    intro v hv vw hl hn
    unfold LawR at hl ⊢
    have sm : ∀ c, c = La + 9 ∨ c = La + 10 → ms (ms μ' (La + 9) w N) (La + 10) w N' c v = μ c v := by
      intro c hc
      rw [ms_at, if_neg (by omega), ms_at, if_neg (by omega)]
      exact fe c v (by omega) (by omega) (by omega) (by omega)
    rw [tl (5 + v) (by omega) (by omega) (by omega) (by omega), tl (7 + v) (by omega) (by omega) (by omega) (by omega), tl (9 + v) (by omega) (by omega) (by omega) (by omega), sm (La + 9) (.inl rfl), sm (La + 10) (.inr rfl)]
    rcases hl with q | ⟨a, b, c, d, e, f, g, k⟩
    · exact .inl q
    · have hn := hn a
      refine .inr ⟨a, b, c, d, e, f, fun j j0 j1 => st j (by omega) (by omega), ?_⟩
      rw [tyR_cg2 (cd' := fun j => ρ 115 (200 + j)) _ _ _ (fun i i0 i1 => by rw [tc i (by omega), g4 i (by omega) (by omega)])]
      exact k
  have both : LawR (ms (ms μ' (La + 9) w N) (La + 10) w N') La (ρ2 115) 0 ∧ LawR (ms (ms μ' (La + 9) w N) (La + 10) w N') La (ρ2 115) 1 := by
    rcases hw with q | q
    · exact ⟨q ▸ lw, lo 1 (.inr rfl) (by omega) h1.2.2.2.2.2.2.2.2 h13⟩
    · exact ⟨lo 0 (.inl rfl) (by omega) h1.2.2.2.2.2.2.2.1 h12, q ▸ lw⟩
  have nw : ∀ v, (v = 0 ∨ v = 1) → (ρ 115 (5 + v) = 1 → ρ 115 (7 + v) + ρ 115 (9 + v) ≤ N) → ρ2 115 (5 + v) = 1 → ρ2 115 (7 + v) + ρ2 115 (9 + v) ≤ N' := by
    intro v hv ho
    by_cases q : v = w
    · rw [q, t7, t9]; intro _; omega
    · rw [tl (5 + v) (by omega) (by omega) (by omega) (by omega), tl (7 + v) (by omega) (by omega) (by omega) (by omega), tl (9 + v) (by omega) (by omega) (by omega) (by omega)]
      intro x
      have := ho x
      omega
  refine ⟨LR_law s (fun i hi => tl i (by omega) (by omega) (by omega) (by omega)) h1 both.1 both.2, by rw [s La 4 (by omega) (by omega), tl 55 (by omega) (by omega) (by omega) (by omega), tl 1 (by omega) (by omega) (by omega) (by omega)]; exact h2, by rw [s La 6 (by omega) (by omega), tl 66 (by omega) (by omega) (by omega) (by omega)]; exact h3, by rw [s La 7 (by omega) (by omega), tl 65 (by omega) (by omega) (by omega) (by omega), tl 3 (by omega) (by omega) (by omega) (by omega)]; exact h4, ?_, by rw [tl 67 (by omega) (by omega) (by omega) (by omega)]; exact h6, by rw [tl 68 (by omega) (by omega) (by omega) (by omega)]; exact h7, by rw [t 199 (by omega) (by omega) (by omega)]; exact e8, by rw [ms_nc (by omega), ms_nc (by omega)]; exact e9, n0, st, nw 0 (.inl rfl) h12, nw 1 (.inr rfl) h13⟩
  intro l l0 l1
  rw [s (La + 3) l (by omega) (by omega), s (La + 4) l (by omega) (by omega), s (La + 5) l (by omega) (by omega), tl (56 + l) (by omega) (by omega) (by omega) (by omega), tl (29 + l) (by omega) (by omega) (by omega) (by omega), tl (38 + l) (by omega) (by omega) (by omega) (by omega)]
  exact h5 l l0 l1
