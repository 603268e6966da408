theorem phi_d {c : Int} (h : (0 ≤ c ∧ c < 1006) ∨ (3000 ≤ c ∧ c ≤ 3009)) : jdiv (phi c) 1000 = (if c < 1000 then 0 else if c < 3000 then 1 else c - 3000 + 2) ∧ jrem (phi c) 1000 = (if c < 1000 then c else if c < 3000 then c - 1000 else 0) := by
  have h1 : 0 ≤ phi c ∧ phi c < 2147483648 := by
    unfold phi
    split <;> omega
  rw [jdiv_nn h1.1 h1.2 (by decide) (by decide), jrem_nn h1.1 h1.2 (by decide) (by decide)]
  unfold phi
  by_cases g1 : c < 1000
  · rw [if_pos (by omega), if_pos g1, if_pos g1]; omega
  · rw [if_neg g1, if_neg g1]
    by_cases g2 : c < 3000
    · rw [if_pos g2, if_pos g2, if_pos g2]; omega
    · rw [if_neg g2, if_neg g2, if_neg g2]; omega
theorem tell_s {X b k w c : Int} {n : Nat} {μ : Mem} {s : List Int} {ty ty' : List Bool} {ws : Int → Int} (hk : isK X 4) (h : StC X μ s) (ok : okS s ty) (ht : tyS w c ty = some ty') (hw : w = 0 ∨ w = 1) (k1 : 0 ≤ k) (kb : k < b) (b9 : b ≤ 900) (hs : μ (X + 1) k = phi c) (hv : ∀ i, 0 ≤ i → i < 6 → μ (X + 4) i = ws i) :
    ∃ μ', f_X4_tell_w60 (n + 1) X b k μ = f_X4_tell_w60 n X b (k + 1) μ' ∧ StC X μ' (evS ws c s) ∧ ScX X μ μ' := by
  have hl := okS_len ok
  have hc : (0 ≤ c ∧ c < 1006) ∨ (3000 ≤ c ∧ c ≤ 3009) := by
    rcases tyS_c ht with h | h | ⟨h1, h2, _⟩ | ⟨h1, h2, _⟩ | ⟨h1, _⟩ | ⟨h1, _⟩ | ⟨h1, _⟩ <;> omega
  obtain ⟨d1, d2⟩ := phi_d hc
  rw [f_X4_tell_w60, nrm_id (z := b) (by omega) (by omega), nrm_id (z := k) (by omega) (by omega), if_neg (by omega), gd_pos (by omega), nm_eq, gd_pos (by omega), nm_eq, hs, d1, d2]
  rcases tyS_c ht with ⟨a1, a2, a3, _⟩ | ⟨a1, a2, a3, _⟩ | ⟨a1, a2, t, e1, _⟩ | ⟨a1, a2, t, e1, _⟩ | ⟨a1, t, e1, _⟩ | ⟨a1, t, e1, _⟩ | ⟨a1, t, e1, _⟩
  · rw [if_pos a2, if_pos a2, if_pos (by decide : nrm 0 = 0)]
    obtain ⟨μ', p1, p2, p3⟩ := push_eq (v := c) h (by omega)
    rw [bn_eq p1]
    refine ⟨μ', rfl, ?_, p3⟩
    unfold evS
    rw [if_pos a2]
    exact p2
  · rw [if_neg (by omega : ¬ c < 1000), if_neg (by omega : ¬ c < 1000), if_pos (by omega : c < 3000), if_pos (by omega : c < 3000), if_neg (by decide : ¬ nrm 1 = 0), if_pos rfl, nrm_id (z := c - 1000) (by omega) (by omega), if_neg (by omega), if_neg (by show ¬ ((6 : Int) ≤ c - 1000); omega), gd_pos (by omega)]
    unfold f_X4_tell_j139
    rw [gd_pos hk, hv _ (by omega) (by omega)]
    obtain ⟨μ', p1, p2, p3⟩ := push_eq (v := ws (c - 1000)) h (by omega)
    rw [bn_eq p1]
    refine ⟨μ', rfl, ?_, p3⟩
    unfold evS
    rw [if_neg (by omega), if_pos (by omega)]
    exact p2
  all_goals simp only [if_neg (by omega : ¬ c < 1000), if_neg (by omega : ¬ c < 3000)]
  all_goals rw [nrm_id (z := c - 3000 + 2) (by omega) (by omega), if_neg (by omega), if_neg (by show ¬ (c - 3000 + 2 = 1); omega)]
  · subst e1
    obtain ⟨v, s, rfl, q1, ok⟩ := okS_inv ok
    obtain ⟨u, s, rfl, q2, ok⟩ := okS_inv ok
    rw [if_neg (by show ¬ (c - 3000 + 2 = 8); omega), if_neg (by show ¬ (c - 3000 + 2 = 11); omega)]
    obtain ⟨m1, p1, p2, p3⟩ := pop_eq h
    obtain ⟨m2, r1, r2, r3⟩ := pop_eq p2
    rw [bn_eq p1, bn_eq r1, if_neg (by show ¬ ((5 : Int) ≤ c - 3000 + 2); omega), bn_eq (reckon_eq m2 a1 a2 q2.1 q2.2 q1.1 q1.2).1]
    have h64 := r2.2.1
    simp only [List.length_cons] at hl
    have h65 := h.2.1
    simp only [List.length_cons] at h65
    obtain ⟨m3, t1, t2, t3⟩ := push_eq (v := opM c u v) r2 (by omega)
    unfold f_X4_tell_j251
    rw [gd_pos hk, bn_eq t1]
    refine ⟨m3, rfl, ?_, ScX_tr p3 (ScX_tr r3 t3)⟩
    unfold evS
    rw [if_neg (by omega), if_neg (by omega), if_neg (by omega), if_neg (by omega)]
    exact t2
  · subst e1
    obtain ⟨v, s, rfl, q1, ok⟩ := okS_inv ok
    obtain ⟨u, s, rfl, q2, ok⟩ := okS_inv ok
    rw [if_neg (by show ¬ (c - 3000 + 2 = 8); omega), if_neg (by show ¬ (c - 3000 + 2 = 11); omega)]
    obtain ⟨m1, p1, p2, p3⟩ := pop_eq h
    obtain ⟨m2, r1, r2, r3⟩ := pop_eq p2
    rw [bn_eq p1, bn_eq r1, if_pos (by show ((5 : Int) ≤ c - 3000 + 2); omega), bn_eq (compare_eq m2 (.inl ⟨a1, a2⟩) q2.1 q2.2 q1.1 q1.2).1]
    have h65 := h.2.1
    simp only [List.length_cons] at h65
    obtain ⟨m3, t1, t2, t3⟩ := push_eq (v := opM c u v) r2 (by omega)
    unfold f_X4_tell_j251
    rw [gd_pos hk, bn_eq t1]
    refine ⟨m3, rfl, ?_, ScX_tr p3 (ScX_tr r3 t3)⟩
    unfold evS
    rw [if_neg (by omega), if_neg (by omega), if_neg (by omega), if_neg (by omega)]
    exact t2
  · subst e1
    obtain ⟨v, s, rfl, q1, ok⟩ := okS_inv ok
    rw [if_pos (by show c - 3000 + 2 = 8; omega)]
    obtain ⟨m1, p1, p2, p3⟩ := pop_eq h
    rw [bn_eq p1]
    have h65 := h.2.1
    simp only [List.length_cons] at h65
    obtain ⟨m3, t1, t2, t3⟩ := push_eq (v := 1 - v) p2 (by omega)
    refine ⟨m3, ?_, ?_, ScX_tr p3 t3⟩
    · unfold f_X4_tell_j165
      rcases q1 with q1 | q1
      · subst q1
        rw [if_pos (by decide : nrm 0 = 0), gd_pos hk]
        rw [show (1 - 0 : Int) = 1 from rfl] at t1
        rw [bn_eq t1]; rfl
      · subst q1
        rw [if_neg (by decide : ¬ nrm 1 = 0), gd_pos hk]
        rw [show (1 - 1 : Int) = 0 from rfl] at t1
        rw [bn_eq t1]; rfl
    · unfold evS
      rw [if_neg (by omega), if_neg (by omega), if_pos a1]
      exact t2
  · subst e1
    obtain ⟨v, s, rfl, q1, ok⟩ := okS_inv ok
    obtain ⟨u, s, rfl, q2, ok⟩ := okS_inv ok
    have q1' : -1000000 ≤ v ∧ v ≤ 1000000 := by unfold okV at q1; omega
    have q2' : -1000000 ≤ u ∧ u ≤ 1000000 := by unfold okV at q2; omega
    rw [if_neg (by show ¬ (c - 3000 + 2 = 8); omega), if_neg (by show ¬ (c - 3000 + 2 = 11); omega)]
    obtain ⟨m1, p1, p2, p3⟩ := pop_eq h
    obtain ⟨m2, r1, r2, r3⟩ := pop_eq p2
    rw [bn_eq p1, bn_eq r1, if_pos (by show ((5 : Int) ≤ c - 3000 + 2); omega), bn_eq (compare_eq m2 (.inr a1) q2'.1 q2'.2 q1'.1 q1'.2).1]
    have h65 := h.2.1
    simp only [List.length_cons] at h65
    obtain ⟨m3, t1, t2, t3⟩ := push_eq (v := opM c u v) r2 (by omega)
    unfold f_X4_tell_j251
    rw [gd_pos hk, bn_eq t1]
    refine ⟨m3, rfl, ?_, ScX_tr p3 (ScX_tr r3 t3)⟩
    unfold evS
    rw [if_neg (by omega), if_neg (by omega), if_neg (by omega), if_neg (by omega)]
    exact t2
  · subst e1
    obtain ⟨v, s, rfl, q1, ok⟩ := okS_inv ok
    obtain ⟨u, s, rfl, q2, ok⟩ := okS_inv ok
    obtain ⟨x, s, rfl, q3, ok⟩ := okS_inv ok
    rw [if_neg (by show ¬ (c - 3000 + 2 = 8); omega), if_pos (by show c - 3000 + 2 = 11; omega)]
    obtain ⟨m1, p1, p2, p3⟩ := pop_eq h
    obtain ⟨m2, r1, r2, r3⟩ := pop_eq p2
    obtain ⟨m3, o1, o2, o3⟩ := pop_eq r2
    rw [bn_eq p1, bn_eq r1, bn_eq o1]
    have h65 := h.2.1
    simp only [List.length_cons] at h65
    obtain ⟨m4, t1, t2, t3⟩ := push_eq (v := if x = 1 then u else v) o2 (by omega)
    refine ⟨m4, ?_, ?_, ScX_tr p3 (ScX_tr r3 (ScX_tr o3 t3))⟩
    · unfold f_X4_tell_j205
      rcases q3 with q3 | q3
      · subst q3
        rw [if_pos (by decide : nrm 0 = 0), gd_pos hk]
        rw [if_neg (by decide)] at t1
        rw [bn_eq t1]; rfl
      · subst q3
        rw [if_neg (by decide : ¬ nrm 1 = 0), gd_pos hk]
        rw [if_pos rfl] at t1
        rw [bn_eq t1]; rfl
    · unfold evS
      rw [if_neg (by omega), if_neg (by omega), if_neg (by omega), if_pos a1]
      exact t2
