theorem plain_w {c : Int} (hA : isA c 1) (hn : 1100 ≤ aln c) : ∀ (d k n : Nat), k + d = 1100 → d < n → ∀ μ, f_X12_plain_w2 n c k μ = some (0, ms (flm μ c k 1100 0) c 1 1) := by
  intro d
  induction d with
  | zero =>
    intro k n h1 h2 μ
    obtain ⟨n, rfl⟩ : ∃ m, n = m + 1 := ⟨n - 1, by omega⟩
    have hk : (k : Int) = 1100 := by omega
    unfold f_X12_plain_w2
    rw [hk, if_pos (Int.le_refl _), gd_pos ⟨hA, by decide, by show (1 : Int) < aln c; omega⟩, nm_eq, flm_nil (by omega)]
    rfl
  | succ d ih =>
    intro k n h1 h2 μ
    obtain ⟨n, rfl⟩ : ∃ m, n = m + 1 := ⟨n - 1, by omega⟩
    unfold f_X12_plain_w2
    rw [show nrm 1100 = 1100 from rfl, nrm_id (z := (k : Int)) (by omega) (by omega), if_neg (by omega), gd_pos ⟨hA, by omega, by omega⟩, nm_eq]
    have := ih (k + 1) n (by omega) (by omega) (ms μ c k 0)
    rw [show ((k + 1 : Nat) : Int) = (k : Int) + 1 by omega] at this
    rw [this, flm_step (by omega)]
theorem plain_eq {c : Int} (hA : isA c 1) (hn : 1100 ≤ aln c) (μ : Mem) : f_X12_plain c μ = some (0, ms (flm μ c 0 1100 0) c 1 1) := by
  have := plain_w hA hn 1100 0 FU (by omega) (by unfold FU; omega) μ
  exact this
def mu0 : Mem := ms (flm nuF 112 0 1100 0) 112 1 1
theorem isA_112 : isA 112 1 := by decide +kernel
theorem aln_112 : aln 112 = 3300 := by decide +kernel
theorem plain_0 : f_X12_plain 112 nuF = some (0, mu0) := plain_eq isA_112 (by rw [aln_112]; decide) nuF
theorem z_0_1 : mu0 0 1 = 0 := by decide +kernel
theorem z_0_3 : mu0 0 3 = 0 := by decide +kernel
theorem z_0_4 : mu0 0 4 = -1 := by decide +kernel
theorem z_0_10 : mu0 0 10 = 0 := by decide +kernel
theorem z_111_5 : mu0 111 5 = 0 := by decide +kernel
theorem z_111_13 : mu0 111 13 = 0 := by decide +kernel
theorem z_111_14 : mu0 111 14 = -1 := by decide +kernel
theorem z_58_0 : mu0 58 0 = 6 := by decide +kernel
theorem z_58_1 : mu0 58 1 = 0 := by decide +kernel
theorem z_58_2 : mu0 58 2 = 0 := by decide +kernel
theorem z_58_3 : mu0 58 3 = 0 := by decide +kernel
theorem z_58_4 : mu0 58 4 = 0 := by decide +kernel
theorem z_6_0 : mu0 6 0 = 1 := by decide +kernel
theorem z_6_1 : mu0 6 1 = 0 := by decide +kernel
theorem z_6_2 : mu0 6 2 = 0 := by decide +kernel
theorem z_6_3 : mu0 6 3 = 0 := by decide +kernel
theorem z_6_5 : mu0 6 5 = 0 := by decide +kernel
theorem z_15_0 : mu0 15 0 = 0 := by decide +kernel
theorem z_15_1 : mu0 15 1 = 0 := by decide +kernel
theorem z_16_0 : mu0 16 0 = 0 := by decide +kernel
theorem z_16_1 : mu0 16 1 = 0 := by decide +kernel
theorem z_62_1 : mu0 62 1 = 0 := by decide +kernel
theorem z_62_2 : mu0 62 2 = 0 := by decide +kernel
theorem z_108_0 : mu0 108 0 = 109 := by decide +kernel
theorem z_108_1 : mu0 108 1 = 110 := by decide +kernel
theorem z_113_0 : mu0 113 0 = 0 := by decide +kernel
theorem z_113_1 : mu0 113 1 = 0 := by decide +kernel
theorem z_85_0 : mu0 85 0 = 6 := by decide +kernel
theorem z_87_0 : mu0 87 0 = 6 := by decide +kernel
theorem z_A1 : mu0 112 1 = 1 := ms_eq _ _ _ _
theorem z_A {j : Int} (h1 : 0 ≤ j) (h2 : j < 1100) (h3 : j ≠ 1) : mu0 112 j = 0 := by
  unfold mu0
  rw [ms_ni h3, flm_in h1 h2]
theorem z_tr : ∀ t : Int, 0 ≤ t → t < 4 → mu0 (90 + 2 * t) 0 = 1 ∧ mu0 126 t = -1 := by
  intro t t1 t2
  rcases (by omega : t = 0 ∨ t = 1 ∨ t = 2 ∨ t = 3) with h | h | h | h <;> subst h <;> decide +kernel
theorem RR_0 : RR mu0 mu0 := by
  have r0 : ∀ j, 0 ≤ j → j < 1100 → j ≠ 1 → rowA mu0 0 j = 0 := by
    intro j h1 h2 h3
    unfold rowA
    rw [Int.zero_add]
    exact z_A h1 h2 h3
  have r1 : rowA mu0 0 1 = 1 := z_A1
  refine ⟨⟨?_, ?_, ?_, ?_⟩, ⟨?_, ?_, ?_⟩, ⟨?_, ?_, ?_⟩, ⟨?_, ?_, ?_, ?_, ?_, ?_⟩, ⟨?_, ?_, ?_⟩, ?_⟩
  · rw [z_0_1, z_111_5]
  · rw [z_0_1]; decide
  · rw [z_0_1]; decide
  · intro i i1 i2; rw [z_0_1] at i2; omega
  · rw [z_0_3, z_111_13]
  · rw [z_0_4, z_111_14]
  · exact .inl ⟨z_108_0, z_108_1⟩
  · rw [z_58_0]; exact .inl rfl
  · rw [z_58_0]
    have law : ∀ w, (w = 0 ∨ w = 1) → LawR mu0 6 (rowA mu0 0) w := by
      intro w hw
      refine .inl ⟨r0 _ (by omega) (by omega) (by omega), ?_⟩
      rcases hw with rfl | rfl
      · exact ⟨z_15_0, z_16_0⟩
      · exact ⟨z_15_1, z_16_1⟩
    refine ⟨?_, ?_, ?_, ?_, ?_, ?_, ?_, law 0 (.inl rfl), law 1 (.inr rfl)⟩
    · rw [r1, z_6_0]; decide
    · rw [r0 2 (by decide) (by decide) (by decide), z_6_1]; decide
    · rw [r0 3 (by decide) (by decide) (by decide), z_6_2]; decide
    · rw [r0 0 (by decide) (by decide) (by decide), z_6_3]
    · rw [r0 4 (by decide) (by decide) (by decide), z_6_5]; decide
    · intro l l1 l2; rw [r0 2 (by decide) (by decide) (by decide)] at l2; omega
    · intro l l1 l2; rw [r0 3 (by decide) (by decide) (by decide)] at l2; omega
  · refine ⟨?_, ?_, ?_, ?_, ?_⟩
    · rw [r0 55 (by decide) (by decide) (by decide), r1, z_58_1]; decide
    · rw [r0 _ (by decide) (by decide) (by decide), z_58_2]; decide
    · rw [r0 _ (by decide) (by decide) (by decide), r0 3 (by decide) (by decide) (by decide), z_58_3]; decide
    · rw [r0 _ (by decide) (by decide) (by decide), z_58_4]
    · intro l l1 l2; rw [r0 2 (by decide) (by decide) (by decide)] at l2; omega
  · rw [z_62_2, z_A (by decide) (by decide) (by decide)]
  · rw [z_A (by decide) (by decide) (by decide)]; decide
  · rw [z_A (by decide) (by decide) (by decide)]; decide
  · rw [z_62_1]; decide
  · rw [z_62_1]; decide
  · intro k k1 k2; rw [z_A (by decide) (by decide) (by decide)] at k2; omega
  · refine ⟨.inl z_113_0, ?_, ?_⟩
    · exact .inl z_85_0
    · intro h; rw [z_113_0] at h; omega
  · refine ⟨.inl z_113_1, ?_, ?_⟩
    · exact .inl z_87_0
    · intro h; rw [z_113_1] at h; omega
  · rw [z_0_10, z_113_0, z_113_1]; rfl
  · intro t t1 t2
    exact .inl (z_tr t t1 t2)
