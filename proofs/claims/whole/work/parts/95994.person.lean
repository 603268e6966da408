theorem jor_in {b p : Int} (p0 : 0 ≤ p) (p8 : p < 8) (b0 : 0 ≤ b) (b1 : b < 2 ^ (p + 1).toNat) : 0 ≤ jor b (jshl 1 p) ∧ jor b (jshl 1 p) < 2 ^ (p + 1).toNat := by
  obtain ⟨b, rfl⟩ := Int.eq_ofNat_of_zero_le b0
  obtain ⟨p, rfl⟩ := Int.eq_ofNat_of_zero_le p0
  have e : ((p : Int) + 1).toNat = p + 1 := by omega
  rw [e] at b1 ⊢
  have hp : 2 ^ (p + 1) ≤ 2 ^ 8 := Nat.pow_le_pow_right (by decide) (by omega)
  have hb : b < 2 ^ (p + 1) := by
    have : ((b : Nat) : Int) < ((2 ^ (p + 1) : Nat) : Int) := by rw [Int.natCast_pow]; exact b1
    omega
  have hq : 2 ^ p < 2 ^ (p + 1) := Nat.pow_lt_pow_right (by decide) (by omega)
  rw [jshl_n (by omega), jor_n _ _ (by omega) (by omega)]
  have := Nat.or_lt_two_pow hb hq
  refine ⟨by omega, ?_⟩
  have h2 : (((b ||| 2 ^ p : Nat)) : Int) < ((2 ^ (p + 1) : Nat) : Int) := by omega
  rw [Int.natCast_pow] at h2
  exact h2
/-- One person more, who turns and stands as was read. -/
theorem LD_person {La N b0 P : Int} {μ : Mem} {A : Int → Int} (h : LD La (ms μ La 7 b0) (upF A 65 b0) N) (hP : A 3 = P) (p8 : P < 8) (e7 : μ La 7 = A 65) (c0 : 0 ≤ A 65) (c1 : A 65 < 2 ^ (P + 1).toNat) (ht : μ (La + 6) P = A (47 + P) ∧ 0 ≤ A (47 + P) ∧ A (47 + P) ≤ 8) : LD La (ms μ La 2 (P + 1)) (upF A 3 (P + 1)) N := by
  obtain ⟨⟨g1, g2, g3, g4, g5, g6, g7, g8, g9⟩, h2, h3, h4, h5, h6, h7, h8, h9, h10, h11, h12, h13⟩ := h
  have u : ∀ i, i ≠ 65 → upF A 65 b0 i = A i := fun i hi => upF_ne hi
  have m : ∀ c i, ¬ (c = La ∧ i = 7) → ms μ La 7 b0 c i = μ c i := fun c i hc => by rw [ms_at, if_neg hc]
  have s : ∀ c i, ¬ (c = La ∧ i = 2) → ms μ La 2 (P + 1) c i = μ c i := fun c i hc => by rw [ms_at, if_neg hc]
  have t : ∀ i, i ≠ 3 → upF A 3 (P + 1) i = A i := fun i hi => upF_ne hi
  rw [m La 0 (by omega), u 1 (by decide)] at g1
  rw [m La 1 (by omega), u 2 (by decide)] at g2
  rw [m La 2 (by omega), u 3 (by decide), hP] at g3
  rw [m La 3 (by omega), u 0 (by decide)] at g4
  rw [m La 5 (by omega), u 4 (by decide)] at g5
  have hw : ∀ w, (w = 0 ∨ w = 1) → LawR (ms μ La 7 b0) La (upF A 65 b0) w → LawR (ms μ La 2 (P + 1)) La (upF A 3 (P + 1)) w := by
    intro w hw h
    unfold LawR at h ⊢
    rw [t (5 + w) (by omega), t (7 + w) (by omega), t (9 + w) (by omega), s (La + 9) w (by omega), s (La + 10) w (by omega)]
    rw [u (5 + w) (by omega), u (7 + w) (by omega), u (9 + w) (by omega), m (La + 9) w (by omega), m (La + 10) w (by omega)] at h
    rcases h with h | ⟨a, b, c, d, e, f, g, k⟩
    · exact .inl h
    · refine .inr ⟨a, b, c, d, e, f, ?_, ?_⟩
      · intro j j1 j2
        have := g j j1 j2
        rw [m (La + 8) j (by omega), u (200 + j) (by omega)] at this
        rw [s (La + 8) j (by omega), t (200 + j) (by omega)]
        exact this
      · rw [tyR_cg2 (cd' := fun j => upF A 65 b0 (200 + j)) _ _ _ (fun i i0 i1 => by rw [t (200 + i) (by omega), u (200 + i) (by omega)])]
        exact k
  refine ⟨⟨by rw [s La 0 (by omega), t 1 (by decide)]; exact g1, by rw [s La 1 (by omega), t 2 (by decide)]; exact g2, ⟨by rw [ms_eq, upF_eq], by rw [upF_eq]; omega, by rw [upF_eq]; omega⟩, by rw [s La 3 (by omega), t 0 (by decide)]; exact g4, by rw [s La 5 (by omega), t 4 (by decide)]; exact g5, ?_, ?_, hw 0 (.inl rfl) g8, hw 1 (.inr rfl) g9⟩, ?_, ?_, ?_, ?_, ?_, ?_, ?_, ?_, h10, ?_, ?_, ?_⟩
  · intro l l0 l1
    rw [t 2 (by decide)] at l1
    have := g6 l l0 (by rw [u 2 (by decide)]; exact l1)
    have l9 := g2.2.2
    unfold LaneR at this ⊢
    rw [u 1 (by decide), u (11 + l) (by omega), u (20 + l) (by omega), u (29 + l) (by omega), u (38 + l) (by omega), m (La + 1) l (by omega), m (La + 2) l (by omega), m (La + 4) l (by omega), m (La + 5) l (by omega)] at this
    rw [t 1 (by decide), t (11 + l) (by omega), t (20 + l) (by omega), t (29 + l) (by omega), t (38 + l) (by omega), s (La + 1) l (by omega), s (La + 2) l (by omega), s (La + 4) l (by omega), s (La + 5) l (by omega)]
    exact this
  · intro p p0 p1
    rw [upF_eq] at p1
    unfold TurnR
    rw [t (47 + p) (by omega), s (La + 6) p (by omega)]
    by_cases q : p = P
    · rw [q]; exact ht
    · have := g7 p p0 (by rw [u 3 (by decide), hP]; omega)
      unfold TurnR at this
      rw [u (47 + p) (by omega), m (La + 6) p (by omega)] at this
      exact this
  · rw [m La 4 (by omega), u 55 (by decide), u 1 (by decide)] at h2
    rw [s La 4 (by omega), t 55 (by decide), t 1 (by decide)]
    exact h2
  · rw [m La 6 (by omega), u 66 (by decide)] at h3
    rw [s La 6 (by omega), t 66 (by decide)]
    exact h3
  · rw [s La 7 (by omega), t 65 (by decide), upF_eq]
    exact ⟨e7, c0, c1⟩
  · intro l l0 l1
    have := h5 l l0 l1
    rw [m (La + 3) l (by omega), m (La + 4) l (by omega), m (La + 5) l (by omega), u (56 + l) (by omega), u (29 + l) (by omega), u (38 + l) (by omega)] at this
    rw [s (La + 3) l (by omega), s (La + 4) l (by omega), s (La + 5) l (by omega), t (56 + l) (by omega), t (29 + l) (by omega), t (38 + l) (by omega)]
    exact this
  · rw [u 67 (by decide)] at h6; rw [t 67 (by decide)]; exact h6
  · rw [u 68 (by decide)] at h7; rw [t 68 (by decide)]; exact h7
  · rw [u 199 (by decide)] at h8; rw [t 199 (by decide)]; exact h8
  · rw [m (La + 7) 1 (by omega)] at h9; rw [s (La + 7) 1 (by omega)]; exact h9
  · intro j j0 j1
    have := h11 j j0 j1
    rw [m (La + 8) j (by omega), u (200 + j) (by omega)] at this
    rw [s (La + 8) j (by omega), t (200 + j) (by omega)]
    exact this
  · rw [u 5 (by decide), u 7 (by decide), u 9 (by decide)] at h12; rw [t 5 (by decide), t 7 (by decide), t 9 (by decide)]; exact h12
  · rw [u 6 (by decide), u 8 (by decide), u 10 (by decide)] at h13; rw [t 6 (by decide), t 8 (by decide), t 10 (by decide)]; exact h13
