theorem tyS_c {w c : Int} {ty ty' : List Bool} (h : tyS w c ty = some ty') :
    (0 ≤ c ∧ c < 1000 ∧ ty.length < 64 ∧ ty' = false :: ty) ∨ (1000 ≤ c ∧ c < 1005 + w ∧ ty.length < 64 ∧ ty' = false :: ty) ∨
    (3000 ≤ c ∧ c ≤ 3002 ∧ ∃ t, ty = false :: false :: t ∧ ty' = false :: t) ∨ (3003 ≤ c ∧ c ≤ 3005 ∧ ∃ t, ty = false :: false :: t ∧ ty' = true :: t) ∨
    (c = 3006 ∧ ∃ t, ty = true :: t ∧ ty' = true :: t) ∨ ((c = 3007 ∨ c = 3008) ∧ ∃ t, ty = true :: true :: t ∧ ty' = true :: t) ∨
    (c = 3009 ∧ ∃ t, ty = false :: false :: true :: t ∧ ty' = false :: t) := by
  unfold tyS at h
  split at h
  · rename_i g
    split at h
    · rename_i g2
      injection h with h
      rcases g with g | g
      · exact .inl ⟨g.1, g.2, g2, h.symm⟩
      · exact .inr (.inl ⟨g.1, g.2, g2, h.symm⟩)
    · exact absurd h (by simp)
  · split at h
    · rename_i g
      split at h
      · injection h with h
        exact .inr (.inr (.inl ⟨g.1, g.2, _, rfl, h.symm⟩))
      · exact absurd h (by simp)
    · split at h
      · rename_i g
        split at h
        · injection h with h
          exact .inr (.inr (.inr (.inl ⟨g.1, g.2, _, rfl, h.symm⟩)))
        · exact absurd h (by simp)
      · split at h
        · rename_i g
          split at h
          · injection h with h
            exact .inr (.inr (.inr (.inr (.inl ⟨g, _, rfl, h.symm⟩))))
          · exact absurd h (by simp)
        · split at h
          · rename_i g
            split at h
            · injection h with h
              exact .inr (.inr (.inr (.inr (.inr (.inl ⟨g, _, rfl, h.symm⟩)))))
            · exact absurd h (by simp)
          · split at h
            · rename_i g
              split at h
              · injection h with h
                exact .inr (.inr (.inr (.inr (.inr (.inr ⟨g, _, rfl, h.symm⟩)))))
              · exact absurd h (by simp)
            · exact absurd h (by simp)
theorem okS_inv : ∀ {s : List Int} {b : Bool} {t : List Bool}, okS s (b :: t) → ∃ v s', s = v :: s' ∧ okV b v ∧ okS s' t
  | v :: s, _, _, h => ⟨v, s, rfl, h.1, h.2⟩
  | [], _, _, h => h.elim
theorem evS_ok {w c : Int} {ws : Int → Int} {ty ty' : List Bool} {s : List Int} (hw : w = 0 ∨ w = 1) (hs : ∀ i, 0 ≤ i → i < 6 → -1000000 ≤ ws i ∧ ws i ≤ 1000000) (h : tyS w c ty = some ty') (k : okS s ty) : okS (evS ws c s) ty' := by
  rcases tyS_c h with ⟨a, b, _, e⟩ | ⟨a, b, _, e⟩ | ⟨a, b, t, e1, e⟩ | ⟨a, b, t, e1, e⟩ | ⟨a, t, e1, e⟩ | ⟨a, t, e1, e⟩ | ⟨a, t, e1, e⟩
  · subst e
    unfold evS
    rw [if_pos b]
    exact ⟨⟨by omega, by omega⟩, k⟩
  · subst e
    unfold evS
    rw [if_neg (by omega), if_pos (by omega)]
    exact ⟨hs _ (by omega) (by omega), k⟩
  · subst e1; subst e
    obtain ⟨v, s, rfl, k1, k⟩ := okS_inv k
    obtain ⟨u, s, rfl, k2, k⟩ := okS_inv k
    unfold evS
    rw [if_neg (by omega), if_neg (by omega), if_neg (by omega), if_neg (by omega)]
    refine ⟨?_, k⟩
    unfold opM
    rw [if_neg (by omega), if_neg (by omega), if_neg (by omega), if_neg (by omega), if_neg (by omega)]
    split
    · exact clamp_in _
    · split <;> exact clamp_in _
  · subst e1; subst e
    obtain ⟨v, s, rfl, k1, k⟩ := okS_inv k
    obtain ⟨u, s, rfl, k2, k⟩ := okS_inv k
    unfold evS
    rw [if_neg (by omega), if_neg (by omega), if_neg (by omega), if_neg (by omega)]
    refine ⟨?_, k⟩
    unfold opM
    rcases (by omega : c = 3003 ∨ c = 3004 ∨ c = 3005) with h | h | h
    · rw [if_pos h]; split
      · exact .inr rfl
      · exact .inl rfl
    · rw [if_neg (by omega), if_pos h]; split
      · exact .inr rfl
      · exact .inl rfl
    · rw [if_neg (by omega), if_neg (by omega), if_pos h]; split
      · exact .inr rfl
      · exact .inl rfl
  · subst e1; subst e
    obtain ⟨v, s, rfl, k1, k⟩ := okS_inv k
    unfold evS
    rw [if_neg (by omega), if_neg (by omega), if_pos a]
    refine ⟨?_, k⟩
    rcases k1 with k1 | k1 <;> subst k1
    · exact .inr rfl
    · exact .inl rfl
  · subst e1; subst e
    obtain ⟨v, s, rfl, k1, k⟩ := okS_inv k
    obtain ⟨u, s, rfl, k2, k⟩ := okS_inv k
    unfold evS
    rw [if_neg (by omega), if_neg (by omega), if_neg (by omega), if_neg (by omega)]
    refine ⟨?_, k⟩
    unfold opM
    rw [if_neg (by omega), if_neg (by omega), if_neg (by omega)]
    rcases a with a | a
    · rw [if_pos a]
      rcases k1 with k1 | k1 <;> rcases k2 with k2 | k2 <;> subst k1 <;> subst k2 <;> unfold okV <;> decide
    · rw [if_neg (by omega), if_pos a]
      rcases k1 with k1 | k1 <;> rcases k2 with k2 | k2 <;> subst k1 <;> subst k2 <;> unfold okV <;> decide
  · subst e1; subst e
    obtain ⟨v, s, rfl, k1, k⟩ := okS_inv k
    obtain ⟨u, s, rfl, k2, k⟩ := okS_inv k
    obtain ⟨b, s, rfl, k3, k⟩ := okS_inv k
    unfold evS
    rw [if_neg (by omega), if_neg (by omega), if_neg (by omega), if_pos a]
    refine ⟨?_, k⟩
    show okV false (if b = 1 then u else v)
    split
    · exact k2
    · exact k1
theorem small_mul {a b : Int} (a1 : -1000000 ≤ a) (a2 : a ≤ 1000000) (b1 : -1000000 ≤ b) (b2 : b ≤ 1000000) : -1000000000000 ≤ a * b ∧ a * b ≤ 1000000000000 := by
  have h1 : 0 ≤ (1000000 - a) * (1000000 - b) := Int.mul_nonneg (by omega) (by omega)
  have h2 : 0 ≤ (1000000 + a) * (1000000 + b) := Int.mul_nonneg (by omega) (by omega)
  have h3 : 0 ≤ (1000000 - a) * (1000000 + b) := Int.mul_nonneg (by omega) (by omega)
  have h4 : 0 ≤ (1000000 + a) * (1000000 - b) := Int.mul_nonneg (by omega) (by omega)
  simp only [Int.sub_mul, Int.mul_sub, Int.add_mul, Int.mul_add] at h1 h2 h3 h4
  omega
theorem reckon_eq {c a b : Int} (μ : Mem) (h1 : 3000 ≤ c) (h2 : c ≤ 3002) (a1 : -1000000 ≤ a) (a2 : a ≤ 1000000) (b1 : -1000000 ≤ b) (b2 : b ≤ 1000000) : f_X4_reckon (c - 3000 + 2) a b μ = some (opM c a b, μ) ∧ f_X12_between c a b μ = some (opM c a b, μ) := by
  have m := small_mul a1 a2 b1 b2
  unfold f_X4_reckon f_X12_between f_X12_between_j81 opM
  rw [nrm_id (z := a) (by omega) (by omega), nrm_id (z := b) (by omega) (by omega), nrm_id (z := c) (by omega) (by omega), nrm_id (z := c - 3000 + 2) (by omega) (by omega), show nrm 2 = 2 from rfl, show nrm 3 = 3 from rfl, show nrm 3000 = 3000 from rfl, show nrm 3001 = 3001 from rfl]
  simp only [if_neg (show ¬ c = 3003 by omega), if_neg (show ¬ c = 3004 by omega), if_neg (show ¬ c = 3005 by omega), if_neg (show ¬ c = 3007 by omega), if_neg (show ¬ c = 3008 by omega)]
  rcases (by omega : c = 3000 ∨ c = 3001 ∨ c = 3002) with h | h | h
  · rw [if_pos (by omega), if_pos h, if_pos h]; exact clamp_j μ (by omega) (by omega)
  · rw [if_neg (by omega), if_pos (by omega), if_neg (by omega), if_pos h, if_neg (by omega), if_pos h]; exact clamp_j μ (by omega) (by omega)
  · rw [if_neg (by omega), if_neg (by omega), if_neg (by omega), if_neg (by omega), if_neg (by omega), if_neg (by omega)]; exact clamp_j μ (by omega) (by omega)
theorem compare_eq {c a b : Int} (μ : Mem) (h1 : (3003 ≤ c ∧ c ≤ 3005) ∨ c = 3007 ∨ c = 3008) (a1 : -1000000 ≤ a) (a2 : a ≤ 1000000) (b1 : -1000000 ≤ b) (b2 : b ≤ 1000000) : f_X4_compare (c - 3000 + 2) a b μ = some (opM c a b, μ) ∧ f_X12_between c a b μ = some (opM c a b, μ) := by
  unfold f_X4_compare f_X12_between opM
  rw [nrm_id (z := a) (by omega) (by omega), nrm_id (z := b) (by omega) (by omega), nrm_id (z := c) (by omega) (by omega), nrm_id (z := c - 3000 + 2) (by omega) (by omega)]
  rcases (by omega : c = 3003 ∨ c = 3004 ∨ c = 3005 ∨ c = 3007 ∨ c = 3008) with h | h | h | h | h <;> subst h
  · simp only [Int.reduceSub, Int.reduceAdd, if_true]
    split <;> exact ⟨rfl, rfl⟩
  · simp only [Int.reduceSub, Int.reduceAdd, if_true, Int.reduceEq, if_false]
    by_cases g : b ≤ a
    · rw [if_pos g, if_neg (by omega)]; exact ⟨rfl, rfl⟩
    · rw [if_neg g, if_pos (by omega)]; exact ⟨rfl, rfl⟩
  · simp only [Int.reduceSub, Int.reduceAdd, if_true, Int.reduceEq, if_false]
    by_cases g : a ≤ b
    · rw [if_pos g, if_neg (by omega)]; exact ⟨rfl, rfl⟩
    · rw [if_neg g, if_pos (by omega)]; exact ⟨rfl, rfl⟩
  · simp only [Int.reduceSub, Int.reduceAdd, if_true, Int.reduceEq, if_false]; exact ⟨trivial, trivial⟩
  · simp only [Int.reduceSub, Int.reduceAdd, if_true, Int.reduceEq, if_false]; exact ⟨trivial, trivial⟩
