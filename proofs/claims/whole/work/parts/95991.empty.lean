theorem empty_C {La : Int} {μ : Mem} (hL : isL La) : ∃ μ', f_X3_makeEmpty La μ = some (0, μ') ∧ (∀ c i, ¬ (La ≤ c ∧ c ≤ La + 10) → μ' c i = μ c i) ∧ μ' La 0 = 1 ∧ (∀ i, 1 ≤ i → i ≤ 7 → μ' La i = 0) ∧ (∀ l, 0 ≤ l → l < 9 → μ' (La + 3) l = 0 ∧ μ' (La + 4) l = 0 ∧ μ' (La + 5) l = 0) ∧ μ' (La + 7) 1 = 0 ∧ (∀ w, 0 ≤ w → w < 2 → μ' (La + 9) w = 0 ∧ μ' (La + 10) w = 0) := by
  have hLo := hL
  unfold isL at hLo
  generalize hm : ms (ms (ms (ms (ms (ms (ms (ms μ La 0 1) La 1 0) La 2 0) La 3 0) La 4 0) La 5 0) La 6 0) La 7 0 = μa
  have k9 : ∀ c, (c = La + 3 ∨ c = La + 4 ∨ c = La + 5) → isA c 1 ∧ aln c = ((9 : Nat) : Int) := by
    intro c hc
    rcases hLo with q | q | q | q <;> subst q <;> rcases hc with p | p | p <;> subst p <;> decide
  have k2 : ∀ c, (c = La + 9 ∨ c = La + 10) → isA c 1 ∧ aln c = ((2 : Nat) : Int) := by
    intro c hc
    rcases hLo with q | q | q | q <;> subst q <;> rcases hc with p | p <;> subst p <;> decide
  have a0 : μa La 0 = 1 := by rw [← hm, ms_ni (by decide), ms_ni (by decide), ms_ni (by decide), ms_ni (by decide), ms_ni (by decide), ms_ni (by decide), ms_ni (by decide), ms_eq]
  have a1 : ∀ i, 1 ≤ i → i ≤ 7 → μa La i = 0 := by
    intro i i1 i7
    rw [← hm]
    rcases (by omega : i = 1 ∨ i = 2 ∨ i = 3 ∨ i = 4 ∨ i = 5 ∨ i = 6 ∨ i = 7) with q | q | q | q | q | q | q <;> subst q <;> simp [ms]
  have af : ∀ c i, c ≠ La → μa c i = μ c i := fun c i hc => by rw [← hm, ms_nc hc, ms_nc hc, ms_nc hc, ms_nc hc, ms_nc hc, ms_nc hc, ms_nc hc, ms_nc hc]
  have f3 := fill_i (v := 0) (k9 (La + 3) (.inl rfl)).1 (k9 (La + 3) (.inl rfl)).2 (by decide) μa
  have f4 := fill_i (v := 0) (k9 (La + 4) (.inr (.inl rfl))).1 (k9 (La + 4) (.inr (.inl rfl))).2 (by decide) (flm μa (La + 3) 0 ((9 : Nat) : Int) 0)
  have f5 := fill_i (v := 0) (k9 (La + 5) (.inr (.inr rfl))).1 (k9 (La + 5) (.inr (.inr rfl))).2 (by decide) (flm (flm μa (La + 3) 0 ((9 : Nat) : Int) 0) (La + 4) 0 ((9 : Nat) : Int) 0)
  generalize hb : flm (flm (flm μa (La + 3) 0 ((9 : Nat) : Int) 0) (La + 4) 0 ((9 : Nat) : Int) 0) (La + 5) 0 ((9 : Nat) : Int) 0 = μb at f5
  have f9 := fill_i (v := 0) (k2 (La + 9) (.inl rfl)).1 (k2 (La + 9) (.inl rfl)).2 (by decide) (ms μb (La + 7) 1 0)
  have f10 := fill_i (v := 0) (k2 (La + 10) (.inr rfl)).1 (k2 (La + 10) (.inr rfl)).2 (by decide) (flm (ms μb (La + 7) 1 0) (La + 9) 0 ((2 : Nat) : Int) 0)
  have bf : ∀ c i, c ≠ La + 3 → c ≠ La + 4 → c ≠ La + 5 → μb c i = μa c i := fun c i x y z => by rw [← hb, flm_nc z, flm_nc y, flm_nc x]
  have ef : ∀ c i, c ≠ La + 7 → c ≠ La + 9 → c ≠ La + 10 → flm (flm (ms μb (La + 7) 1 0) (La + 9) 0 ((2 : Nat) : Int) 0) (La + 10) 0 ((2 : Nat) : Int) 0 c i = μb c i := fun c i x y z => by rw [flm_nc z, flm_nc y, ms_nc x]
  refine ⟨flm (flm (ms μb (La + 7) 1 0) (La + 9) 0 ((2 : Nat) : Int) 0) (La + 10) 0 ((2 : Nat) : Int) 0, ?_, ?_, ?_, ?_, ?_, ?_, ?_⟩
  · unfold f_X3_makeEmpty f_X4_makeEmpty
    rw [nm_eq, nm_eq, nm_eq, nm_eq, nm_eq, nm_eq, nm_eq, nm_eq, hm, bn_eq f3, bn_eq f4, bn_eq f5, nm_eq, show La + 7 + 2 = La + 9 by omega, show La + 7 + 3 = La + 10 by omega, bn_eq f9, bn_eq f10, bn_eq rfl]
  · intro c i hc
    rw [ef c i (by omega) (by omega) (by omega), bf c i (by omega) (by omega) (by omega), af c i (by omega)]
  · rw [ef La 0 (by omega) (by omega) (by omega), bf La 0 (by omega) (by omega) (by omega)]; exact a0
  · intro i i1 i7
    rw [ef La i (by omega) (by omega) (by omega), bf La i (by omega) (by omega) (by omega)]; exact a1 i i1 i7
  · intro l l0 l1
    rw [ef _ _ (by omega) (by omega) (by omega), ef _ _ (by omega) (by omega) (by omega), ef _ _ (by omega) (by omega) (by omega), ← hb]
    refine ⟨?_, ?_, ?_⟩
    · rw [flm_nc (by omega), flm_nc (by omega), flm_in l0 (by omega)]
    · rw [flm_nc (by omega), flm_in l0 (by omega)]
    · rw [flm_in l0 (by omega)]
  · rw [flm_nc (by omega), flm_nc (by omega), ms_eq]
  · intro w w0 w1
    refine ⟨?_, ?_⟩
    · rw [flm_nc (by omega), flm_in w0 (by omega)]
    · rw [flm_in w0 (by omega)]
