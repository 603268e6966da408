/-! a land that is free -/
def spF (c0 c1 c2 x k : Int) : Int := if 6 + 13 * k = c0 ∨ 6 + 13 * k = c1 ∨ 6 + 13 * k = c2 then x else 6 + 13 * k
theorem spare_s {μ : Mem} {c0 c1 c2 x k : Int} {m : Nat} (e0 : μ 58 0 = c0) (e1 : μ 85 0 = c1) (e2 : μ 87 0 = c2) (i0 : isL c0) (i1 : isL c1) (i2 : isL c2) (k0 : 0 ≤ k) (k4 : k < 4) :
    f_X11_spareLand_w9 (m + 1) 0 x k μ = f_X11_spareLand_w9 m 0 (spF c0 c1 c2 x k) (k + 1) μ := by
  have e2' : ∀ (K : Int → Int → Int → Mem → Option (Int × Mem)) (q : Nat) (s : Int), (s = 0 ∨ s = 1) → f_X11_spareLand_w43 K (q + 1) 0 x k s 2 μ = K 0 (if s = 0 then 6 + 13 * k else x) (k + 1) μ := by
    intro K q s hs
    rw [f_X11_spareLand_w43, if_pos (by decide), nrm_id (z := k) (by omega) (by omega), show (0 + 5 + 1 + 13 * k : Int) = 6 + 13 * k by omega]
    unfold f_X11_spareLand_j109
    rcases hs with z | z <;> subst z
    · rw [if_pos (by decide : nrm 0 = 0), gd_pos (by omega), if_pos rfl]
    · rw [if_neg (by decide : ¬ nrm 1 = 0), if_neg (by decide : ¬ (1 : Int) = 0)]
  have e1' : ∀ (K : Int → Int → Int → Mem → Option (Int × Mem)) (q : Nat) (s : Int), (s = 0 ∨ s = 1) → f_X11_spareLand_w43 K (q + 2) 0 x k s 1 μ = K 0 (if s = 0 ∧ 6 + 13 * k ≠ c2 then 6 + 13 * k else x) (k + 1) μ := by
    intro K q s hs
    rw [f_X11_spareLand_w43, if_neg (by decide), nrm_id (z := k) (by omega) (by omega), show nrm 1 = 1 from rfl, show (0 + 84 + 1 + 2 * 1 : Int) = 87 from rfl, e2, show (0 + 5 + 1 + 13 * k : Int) = 6 + 13 * k by omega]
    unfold f_X11_spareLand_j86 f_X11_spareLand_j90 f_X11_spareLand_j91
    rw [show (1 + 1 : Int) = 2 from rfl, e2' K q 0 (.inl rfl), e2' K q 1 (.inr rfl), if_pos rfl, if_neg (by decide : ¬ (1 : Int) = 0)]
    rcases hs with z | z <;> subst z
    · rw [if_pos (by decide : nrm 0 = 0), gd_pos (by decide), if_neg (by decide : ¬ (87 : Int) < 0), gd_pos (by omega), gd_pos (by decide), gd_pos (isL_k i2)]
      by_cases y : 6 + 13 * k = c2
      · rw [if_pos y, if_neg (fun q => q.2 y)]
      · rw [if_neg y, if_pos ⟨rfl, y⟩]
    · rw [if_neg (by decide : ¬ nrm 1 = 0), if_neg (fun q => absurd q.1 (by decide))]
  have e0' : ∀ (K : Int → Int → Int → Mem → Option (Int × Mem)) (q : Nat) (s : Int), (s = 0 ∨ s = 1) → f_X11_spareLand_w43 K (q + 3) 0 x k s 0 μ = K 0 (if s = 0 ∧ 6 + 13 * k ≠ c1 ∧ 6 + 13 * k ≠ c2 then 6 + 13 * k else x) (k + 1) μ := by
    intro K q s hs
    rw [f_X11_spareLand_w43, if_neg (by decide), nrm_id (z := k) (by omega) (by omega), show nrm 0 = 0 from rfl, show (0 + 84 + 1 + 2 * 0 : Int) = 85 from rfl, e1, show (0 + 5 + 1 + 13 * k : Int) = 6 + 13 * k by omega]
    unfold f_X11_spareLand_j86 f_X11_spareLand_j90 f_X11_spareLand_j91
    rw [show (0 + 1 : Int) = 1 from rfl, e1' K q 0 (.inl rfl), e1' K q 1 (.inr rfl)]
    rcases hs with z | z <;> subst z
    · rw [if_pos (by decide : nrm 0 = 0), gd_pos (by decide), if_neg (by decide : ¬ (85 : Int) < 0), gd_pos (by omega), gd_pos (by decide), gd_pos (isL_k i1)]
      by_cases y : 6 + 13 * k = c1
      · rw [if_pos y, if_neg (show ¬ ((1 : Int) = 0 ∧ 6 + 13 * k ≠ c2) from fun q => absurd q.1 (by decide)), if_neg (fun q => q.2.1 y)]
      · rw [if_neg y]
        by_cases w : 6 + 13 * k = c2
        · rw [if_neg (fun q => q.2 w), if_neg (fun q => q.2.2 w)]
        · rw [if_pos ⟨rfl, w⟩, if_pos ⟨rfl, y, w⟩]
    · rw [if_neg (by decide : ¬ nrm 1 = 0), if_neg (show ¬ ((1 : Int) = 0 ∧ 6 + 13 * k ≠ c2) from fun q => absurd q.1 (by decide)), if_neg (fun q => absurd q.1 (by decide))]
  rw [f_X11_spareLand_w9, nrm_id (z := k) (by omega) (by omega), if_neg (by show ¬ ((4 : Int) ≤ k); omega), gd_pos (by omega), show (0 + 58 : Int) = 58 from rfl, e0, gd_pos (isL_k i0), show (0 + 5 + 1 + 13 * k : Int) = 6 + 13 * k by omega]
  unfold f_X11_spareLand_j39 spF
  rw [show FU = 9997 + 3 from rfl, e0' _ 9997 1 (.inr rfl), e0' _ 9997 0 (.inl rfl)]
  by_cases z : 6 + 13 * k = c0
  · rw [if_pos z, if_neg (fun q => absurd q.1 (by decide)), if_pos (.inl z)]
  · rw [if_neg z]
    by_cases y : 6 + 13 * k = c1
    · rw [if_neg (fun q => q.2.1 y), if_pos (.inr (.inl y))]
    · by_cases w : 6 + 13 * k = c2
      · rw [if_neg (fun q => q.2.2 w), if_pos (.inr (.inr w))]
      · rw [if_pos ⟨rfl, y, w⟩, if_neg (by omega)]
theorem spare_eq {μ : Mem} (i0 : isL (μ 58 0)) (i1 : isL (μ 85 0)) (i2 : isL (μ 87 0)) : ∃ La, f_X11_spareLand 0 μ = some (La, μ) ∧ isL La ∧ La ≠ μ 58 0 ∧ La ≠ μ 85 0 ∧ La ≠ μ 87 0 := by
  have s := fun (m : Nat) (x k : Int) (k0 : 0 ≤ k) (k4 : k < 4) => spare_s (x := x) (m := m) (e0 := rfl) (e1 := rfl) (e2 := rfl) i0 i1 i2 k0 k4
  refine ⟨spF (μ 58 0) (μ 85 0) (μ 87 0) (spF (μ 58 0) (μ 85 0) (μ 87 0) (spF (μ 58 0) (μ 85 0) (μ 87 0) (spF (μ 58 0) (μ 85 0) (μ 87 0) 6 0) 1) 2) 3, ?_, ?_⟩
  · unfold f_X11_spareLand
    rw [show FU = 9996 + 1 + 1 + 1 + 1 from rfl, show (0 + 5 + 1 + 13 * 0 : Int) = 6 from rfl, s _ _ 0 (by decide) (by decide), s _ _ (0 + 1) (by decide) (by decide), s _ _ (0 + 1 + 1) (by decide) (by decide), s _ _ (0 + 1 + 1 + 1) (by decide) (by decide)]
    show f_X11_spareLand_w9 (9995 + 1) 0 _ 4 μ = _
    rw [f_X11_spareLand_w9, if_pos (by decide)]
    rfl
  · generalize μ 58 0 = c0 at *
    generalize μ 85 0 = c1 at *
    generalize μ 87 0 = c2 at *
    unfold isL at *
    rcases i0 with q | q | q | q <;> rcases i1 with p | p | p | p <;> rcases i2 with r | r | r | r <;> subst q <;> subst p <;> subst r <;> decide
/-- The class's tokens, and the reference's first. -/
theorem begin_eq {n : Int} {T : Int → Int} {μ ρ : Mem} (h : TX n T) (ht : ∀ i, 0 ≤ i → i < n → jand (μ 1 i) 255 = T i) (c : TM n T ρ) (e7 : ρ 111 7 = 0) (f2 : μ 2 2 = 0) (f3 : μ 2 3 = -1) : ∃ μ' ρ' a K V, f_X9_begin 3 1 n μ = some (0, μ') ∧ f_X12_next 111 ρ = some (0, ρ') ∧ (∀ c i, c ≠ 3 → c ≠ 4 → μ' c i = μ c i) ∧ FN ρ ρ' ∧ PS n T μ' ρ' a K V := by
  have h2 := h.2.1
  have h1 := h.1
  have hm : f_J9_min_7cf53 n 900 (ms μ 3 3 1) = some (n, ms μ 3 3 1) := by
    rw [min_eq _ (nrm_id (by omega) (by omega)) rfl]
    by_cases q : 900 < n
    · omega
    · rw [if_neg (by omega)]
  have c0 : TC n T (ms (ms (ms μ 3 3 1) 3 4 n) 3 6 0) := by
    refine ⟨rfl, rfl, fun i i0 i1 => ?_⟩
    rw [ms_nc (by decide), ms_nc (by decide), ms_nc (by decide)]
    exact ht i i0 i1
  obtain ⟨μ1, q, y1, y2, y3, y4, y5, y6⟩ := begin_w h n.toNat FU 0 0 0 _ (by omega) (by omega) h1 (by unfold FU; omega) (by omega) (by omega) c0 (ms_eq ..) (by omega) (by omega)
  rw [show (0 : Int) + (q : Int) = q by omega] at y4 y5 y6
  have hk := keepT_eq (k := 0) (a := n) (v := 0) y4 (by omega) (by omega)
  have e34 : μ1 3 4 = n := (TC_fb c0 y2).2.1
  generalize hμ2 : ms (kpM μ1 q (pack 0 n 0)) 3 7 0 = μ2
  have l2 : LsT n T μ2 q 0 0 := LsT_co q _ _ (fun i _ => by rw [← hμ2, ms_nc (by decide)]) y6
  have f6 : μ2 3 6 = 0 + (q : Int) + 1 := by rw [← hμ2, ms_ni (by decide), kp_6]; omega
  have fr : ∀ c i, c ≠ 3 → c ≠ 4 → μ2 c i = μ c i := fun c i e3 e4 => by rw [← hμ2, ms_nc e3, FB_kp c i e4 (by omega), y2 c i e4 (by omega), ms_nc e3, ms_nc e3, ms_nc e3]
  obtain ⟨μ', ρ', a, K, V, z1, z2, z3, z4, z5, z6⟩ := LsT_PS h c (by decide) h1 e7 (by rw [← hμ2, ms_eq] : μ2 3 7 = 0) (by decide) (by decide) f6 (by omega) l2 ((fr 2 2 (by decide) (by decide)).trans f2) ((fr 2 3 (by decide) (by decide)).trans f3)
  refine ⟨μ', ρ', a, K, V, ?_, z2, ?_, z4, z6⟩
  · unfold f_X9_begin f_X9_begin_j20
    rw [nm_eq, if_neg (by decide : ¬ (1 : Int) < 0), gd_pos kk_1, bn_eq hm, gd_pos kk_3, nm_eq, nm_eq, y1]
    unfold f_X9_begin_j142
    rw [e34, bn_eq hk, nm_eq, hμ2, bn_eq z1]
  · intro c i e3 e4
    rw [z3 c i (by omega), fr c i e3 e4]
