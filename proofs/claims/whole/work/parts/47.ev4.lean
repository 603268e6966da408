theorem isA_116 : isA 116 1 := by decide +kernel
theorem aln_116 : aln 116 = 900 := by decide +kernel
def ScM (ρ ρ' : Mem) : Prop := ∀ c i, c ≠ 116 → ρ' c i = ρ c i
theorem ScM_ms (ρ : Mem) (i v : Int) : ScM ρ (ms ρ 116 i v) := fun c j h => ms_nc h
theorem stk_ms {ρ : Mem} {s : List Int} {v : Int} (h : stk (ρ 116) s) : stk (ms ρ 116 s.length v 116) (v :: s) :=
  ⟨ms_eq _ _ _ _, stk_up (f := ρ 116) (fun i i1 i2 => ms_ni (by omega)) h⟩
theorem rk_s {k w c F M m : Int} {n : Nat} {ρ : Mem} {s : List Int} {ty ty' : List Bool} {ws : Int → Int} (h : stk (ρ 116) s) (ok : okS s ty) (h64 : s.length ≤ 64) (ht : tyS w c ty = some ty') (hw : w = 0 ∨ w = 1) (k1 : 0 ≤ k) (kM : k < M) (hF : ρ 112 (7 + w) = F) (hM : ρ 112 (9 + w) = M) (F0 : 0 ≤ F) (FM : F + M ≤ 900)
    (hc : ρ 112 (200 + (F + k)) = c) (hv : ∀ i, 0 ≤ i → i < 6 → ρ 117 i = ws i) (hm : m = s.length) :
    ∃ m' ρ', f_X12_reckons_w71 (n + 1) 111 w m k ρ = f_X12_reckons_w71 n 111 w m' (k + 1) ρ' ∧ m' = ((evS ws c s).length : Int) ∧ stk (ρ' 116) (evS ws c s) ∧ ScM ρ ρ' := by
  have hl := okS_len ok
  have hb : (0 ≤ c ∧ c < 1006) ∨ (3000 ≤ c ∧ c ≤ 3009) := by
    rcases tyS_c ht with h | h | ⟨h1, h2, _⟩ | ⟨h1, h2, _⟩ | ⟨h1, _⟩ | ⟨h1, _⟩ | ⟨h1, _⟩ <;> omega
  rw [f_X12_reckons_w71]
  simp only [Int.reduceAdd]
  rw [nrm_id (z := 9 + w) (by omega) (by omega), gd_pos (by omega), hM, nrm_id (z := M) (by omega) (by omega), nrm_id (z := k) (by omega) (by omega), if_neg (by omega), nrm_id (z := 7 + w) (by omega) (by omega), gd_pos (by omega), hF, Int.add_assoc, nrm_id (z := 200 + (F + k)) (by omega) (by omega), gd_pos (by omega), nm_eq, hc, nrm_id (z := c) (by omega) (by omega)]
  rw [show nrm 3000 = 3000 from rfl, show nrm 3006 = 3006 from rfl, show nrm 3009 = 3009 from rfl, show nrm 1000 = 1000 from rfl, show nrm 1 = 1 from rfl]
  rcases tyS_c ht with ⟨a1, a2, a3, _⟩ | ⟨a1, a2, a3, _⟩ | ⟨a1, a2, t, e1, _⟩ | ⟨a1, a2, t, e1, _⟩ | ⟨a1, t, e1, _⟩ | ⟨a1, t, e1, _⟩ | ⟨a1, t, e1, _⟩
  · rw [if_neg (by omega : ¬ 3000 ≤ c), if_neg (by omega : ¬ 1000 ≤ c)]
    unfold f_X12_reckons_j146
    rw [nrm_id (z := m) (by omega) (by omega), gd_pos ⟨isA_116, by omega, by rw [aln_116]; omega⟩, nm_eq]
    have e : evS ws c s = c :: s := if_pos a2
    rw [e, hm]
    exact ⟨_, ms ρ 116 s.length c, rfl, by simp only [List.length_cons]; omega, stk_ms h, ScM_ms _ _ _⟩
  · rw [if_neg (by omega : ¬ 3000 ≤ c), if_pos a1]
    unfold f_X12_reckons_j146
    rw [nrm_id (z := c - 1000) (by omega) (by omega), gd_pos (by omega), nrm_id (z := m) (by omega) (by omega), gd_pos ⟨isA_116, by omega, by rw [aln_116]; omega⟩, nm_eq, hv _ (by omega) (by omega)]
    have e : evS ws c s = ws (c - 1000) :: s := by unfold evS; rw [if_neg (by omega), if_pos (by omega)]
    rw [e, hm]
    exact ⟨_, ms ρ 116 s.length (ws (c - 1000)), rfl, by simp only [List.length_cons]; omega, stk_ms h, ScM_ms _ _ _⟩
  all_goals rw [if_pos (by omega : 3000 ≤ c)]
  · subst e1
    obtain ⟨v, s, rfl, q1, ok⟩ := okS_inv ok
    obtain ⟨u, s, rfl, q2, ok⟩ := okS_inv ok
    have e : evS ws c (v :: u :: s) = opM c u v :: s := by unfold evS; rw [if_neg (by omega), if_neg (by omega), if_neg (by omega), if_neg (by omega)]
    obtain ⟨g1, g2, g3⟩ := h
    simp only [List.length_cons] at g1 h64 hm
    rw [e, if_neg (by omega), if_neg (by omega)]
    rw [show m + (-1) = ((s.length + 1 : Nat) : Int) by omega, show (((s.length + 1 : Nat) : Int) - 1) = (s.length : Int) by omega]
    rw [nrm_id (z := (s.length : Int)) (by omega) (by omega), gd_pos (by omega), nrm_id (z := ((s.length + 1 : Nat) : Int)) (by omega) (by omega), gd_pos (by omega), g1, g2, bn_eq (reckon_eq ρ a1 a2 q2.1 q2.2 q1.1 q1.2).2, gd_pos (by omega), nm_eq]
    exact ⟨_, ms ρ 116 s.length (opM c u v), rfl, rfl, stk_ms g3, ScM_ms _ _ _⟩
  · subst e1
    obtain ⟨v, s, rfl, q1, ok⟩ := okS_inv ok
    obtain ⟨u, s, rfl, q2, ok⟩ := okS_inv ok
    have e : evS ws c (v :: u :: s) = opM c u v :: s := by unfold evS; rw [if_neg (by omega), if_neg (by omega), if_neg (by omega), if_neg (by omega)]
    obtain ⟨g1, g2, g3⟩ := h
    simp only [List.length_cons] at g1 h64 hm
    rw [e, if_neg (by omega), if_neg (by omega)]
    rw [show m + (-1) = ((s.length + 1 : Nat) : Int) by omega, show (((s.length + 1 : Nat) : Int) - 1) = (s.length : Int) by omega]
    rw [nrm_id (z := (s.length : Int)) (by omega) (by omega), gd_pos (by omega), nrm_id (z := ((s.length + 1 : Nat) : Int)) (by omega) (by omega), gd_pos (by omega), g1, g2, bn_eq (compare_eq ρ (.inl ⟨a1, a2⟩) q2.1 q2.2 q1.1 q1.2).2, gd_pos (by omega), nm_eq]
    exact ⟨_, ms ρ 116 s.length (opM c u v), rfl, rfl, stk_ms g3, ScM_ms _ _ _⟩
  · subst e1
    obtain ⟨v, s, rfl, q1, ok⟩ := okS_inv ok
    have e : evS ws c (v :: s) = (1 - v) :: s := by unfold evS; rw [if_neg (by omega), if_neg (by omega), if_pos a1]
    obtain ⟨g1, g2⟩ := h
    simp only [List.length_cons] at h64 hm
    rw [e, if_pos a1]
    rw [show m - 1 = (s.length : Int) by omega]
    rw [nrm_id (z := (s.length : Int)) (by omega) (by omega), gd_pos (by omega), gd_pos (by omega), g1, nm_eq]
    exact ⟨_, ms ρ 116 s.length (1 - v), rfl, hm, stk_ms g2, ScM_ms _ _ _⟩
  · subst e1
    obtain ⟨v, s, rfl, q1, ok⟩ := okS_inv ok
    obtain ⟨u, s, rfl, q2, ok⟩ := okS_inv ok
    have q1' : -1000000 ≤ v ∧ v ≤ 1000000 := by unfold okV at q1; omega
    have q2' : -1000000 ≤ u ∧ u ≤ 1000000 := by unfold okV at q2; omega
    have e : evS ws c (v :: u :: s) = opM c u v :: s := by unfold evS; rw [if_neg (by omega), if_neg (by omega), if_neg (by omega), if_neg (by omega)]
    obtain ⟨g1, g2, g3⟩ := h
    simp only [List.length_cons] at g1 h64 hm
    rw [e, if_neg (by omega), if_neg (by omega)]
    rw [show m + (-1) = ((s.length + 1 : Nat) : Int) by omega, show (((s.length + 1 : Nat) : Int) - 1) = (s.length : Int) by omega]
    rw [nrm_id (z := (s.length : Int)) (by omega) (by omega), gd_pos (by omega), nrm_id (z := ((s.length + 1 : Nat) : Int)) (by omega) (by omega), gd_pos (by omega), g1, g2, bn_eq (compare_eq ρ (.inr a1) q2'.1 q2'.2 q1'.1 q1'.2).2, gd_pos (by omega), nm_eq]
    exact ⟨_, ms ρ 116 s.length (opM c u v), rfl, rfl, stk_ms g3, ScM_ms _ _ _⟩
  · subst e1
    obtain ⟨v, s, rfl, q1, ok⟩ := okS_inv ok
    obtain ⟨u, s, rfl, q2, ok⟩ := okS_inv ok
    obtain ⟨x, s, rfl, q3, ok⟩ := okS_inv ok
    have e : evS ws c (v :: u :: x :: s) = (if x = 1 then u else v) :: s := by unfold evS; rw [if_neg (by omega), if_neg (by omega), if_neg (by omega), if_pos a1]
    obtain ⟨g1, g2, g3, g4⟩ := h
    simp only [List.length_cons] at g1 g2 h64 hm
    rw [e, if_neg (by omega), if_pos a1]
    rw [show m + (-2) = ((s.length + 1 : Nat) : Int) by omega, show (((s.length + 1 : Nat) : Int) - 1) = (s.length : Int) by omega, show (((s.length + 1 : Nat) : Int) + 1) = ((s.length + 1 + 1 : Nat) : Int) by omega]
    rw [nrm_id (z := (s.length : Int)) (by omega) (by omega), gd_pos (by omega), nrm_id (z := ((s.length + 1 : Nat) : Int)) (by omega) (by omega), nrm_id (z := ((s.length + 1 + 1 : Nat) : Int)) (by omega) (by omega), g1, g2, g3]
    unfold f_X12_reckons_j235
    rw [nrm_id (z := (s.length : Int)) (by omega) (by omega)]
    rcases q3 with q3 | q3
    · subst q3
      rw [if_neg (by decide : ¬ nrm 0 = 1), if_neg (by decide : ¬ (0 : Int) = 1), gd_pos (by omega), gd_pos ⟨isA_116, by omega, by rw [aln_116]; omega⟩, nm_eq]
      exact ⟨_, ms ρ 116 s.length v, rfl, rfl, stk_ms g4, ScM_ms _ _ _⟩
    · subst q3
      rw [if_pos (by decide : nrm 1 = 1), if_pos (rfl : (1 : Int) = 1), gd_pos (by omega), gd_pos ⟨isA_116, by omega, by rw [aln_116]; omega⟩, nm_eq]
      exact ⟨_, ms ρ 116 s.length u, rfl, rfl, stk_ms g4, ScM_ms _ _ _⟩
