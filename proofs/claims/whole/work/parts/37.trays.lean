/-- A stretch of a cell filled with a number. -/
def flm (μ : Mem) (c lo hi v : Int) : Mem := fun c' i => if c' = c ∧ lo ≤ i ∧ i < hi then v else μ c' i
theorem flm_nc {μ : Mem} {c lo hi v c' i : Int} (h : c' ≠ c) : flm μ c lo hi v c' i = μ c' i := if_neg (fun e => h e.1)
theorem flm_in {μ : Mem} {c lo hi v i : Int} (h1 : lo ≤ i) (h2 : i < hi) : flm μ c lo hi v c i = v := if_pos ⟨rfl, h1, h2⟩
theorem flm_out {μ : Mem} {c lo hi v c' i : Int} (h : i < lo ∨ hi ≤ i) : flm μ c lo hi v c' i = μ c' i := if_neg (fun e => by omega)
theorem flm_nil {μ : Mem} {c lo hi v : Int} (h : hi ≤ lo) : flm μ c lo hi v = μ := by
  funext c' i
  exact if_neg (fun e => by omega)
theorem flm_step {μ : Mem} {c lo hi v : Int} (h : lo < hi) : flm (ms μ c lo v) c (lo + 1) hi v = flm μ c lo hi v := by
  funext c' i
  unfold flm ms
  by_cases e : c' = c
  · by_cases a : i = lo
    · rw [if_neg (by omega), if_pos ⟨e, a⟩, if_pos ⟨e, by omega, by omega⟩]
    · by_cases b : lo ≤ i ∧ i < hi
      · rw [if_pos ⟨e, by omega, by omega⟩, if_pos ⟨e, by omega, by omega⟩]
      · rw [if_neg (by omega), if_neg (by omega), if_neg (by omega)]
  · rw [if_neg (by omega), if_neg (by omega), if_neg (by omega)]
theorem fill_l_w {c v : Int} (hk : isK c 40040) : ∀ (d i n : Nat), i + d = 40 → d < n → ∀ μ, f_J7_fill_d0a16_w6 n c v i 40 μ = some (0, flm μ c i 40 v) := by
  intro d
  induction d with
  | zero =>
    intro i n h1 h2 μ
    obtain ⟨n, rfl⟩ : ∃ m, n = m + 1 := ⟨n - 1, by omega⟩
    unfold f_J7_fill_d0a16_w6
    rw [nrm_id (by omega) (by omega), nrm_id (by omega) (by omega), if_pos (by omega), flm_nil (by omega)]
  | succ d ih =>
    intro i n h1 h2 μ
    obtain ⟨n, rfl⟩ : ∃ m, n = m + 1 := ⟨n - 1, by omega⟩
    unfold f_J7_fill_d0a16_w6
    rw [nrm_id (by omega) (by omega), nrm_id (by omega) (by omega), if_neg (by omega), gd_pos hk, gd_pos (by omega), nm_eq]
    have := ih (i + 1) n (by omega) (by omega) (ms μ c i v)
    rw [show ((i + 1 : Nat) : Int) = (i : Int) + 1 by omega] at this
    rw [this, flm_step (by omega)]
theorem fill_l {c v : Int} (hk : isK c 40040) (μ : Mem) : f_J7_fill_d0a16 c v μ = some (0, flm μ c 0 40 v) := by
  unfold f_J7_fill_d0a16
  rw [gd_pos hk]
  exact fill_l_w hk 40 0 FU (by omega) (by unfold FU; omega) μ
theorem numbers_w {a c : Int} (a1 : 0 ≤ a) (a2 : a < 4) (c1 : 0 ≤ c) (c2 : c ≤ 40) : ∀ (d i n : Nat), (i : Int) + d = c → d < n → ∀ ρ, f_X12_numbers_w64 n 111 a c i ρ = some (0, flm ρ 128 (40 * a + i) (40 * a + c) 0) := by
  intro d
  induction d with
  | zero =>
    intro i n h1 h2 μ
    obtain ⟨n, rfl⟩ : ∃ m, n = m + 1 := ⟨n - 1, by omega⟩
    unfold f_X12_numbers_w64
    rw [nrm_id (by omega) (by omega), nrm_id (by omega) (by omega), if_pos (by omega), flm_nil (by omega)]
  | succ d ih =>
    intro i n h1 h2 μ
    obtain ⟨n, rfl⟩ : ∃ m, n = m + 1 := ⟨n - 1, by omega⟩
    unfold f_X12_numbers_w64
    rw [nrm_id (z := c) (by omega) (by omega), nrm_id (z := (i : Int)) (by omega) (by omega), if_neg (by omega), nrm_id (z := 40 * a + (i : Int)) (by omega) (by omega), gd_pos (by omega), nm_eq]
    have := ih (i + 1) n (by omega) (by omega) (ms μ 128 (40 * a + i) 0)
    rw [show ((i + 1 : Nat) : Int) = (i : Int) + 1 by omega, ← Int.add_assoc] at this
    rw [show (111 + 17 : Int) = 128 from rfl, this, flm_step (by omega)]
theorem tray_k {a : Int} (a1 : 0 ≤ a) (a2 : a < 4) : isK (90 + 2 * a) 10 ∧ isK (90 + 2 * a + 1) 40040 := by
  rcases (by omega : a = 0 ∨ a = 1 ∨ a = 2 ∨ a = 3) with h | h | h | h <;> subst h
  · exact ⟨kk_90, kk_91⟩
  · exact ⟨kk_92, kk_93⟩
  · exact ⟨kk_94, kk_95⟩
  · exact ⟨kk_96, kk_97⟩
theorem trayOf_eq {a : Int} (μ : Mem) (ha : nrm a = a) : f_X11_trayOf 0 a μ = some (if 0 ≤ a ∧ a < 4 then 90 + 2 * a else -1, μ) := by
  unfold f_X11_trayOf
  rw [ha, show nrm 4 = 4 from rfl]
  by_cases h1 : a < 0
  · rw [if_pos h1, if_neg (by omega)]
  · rw [if_neg h1]
    by_cases h2 : a < 4
    · rw [if_pos h2, gd_pos (by omega), if_pos (by omega)]
      simp only [Option.some.injEq, Prod.mk.injEq, and_true]
      omega
    · rw [if_neg h2, if_neg (by omega)]
theorem op_numbers (a b c : Int) (ha : nrm a = a) (hb : nrm b = b) (hc : nrm c = c) : Op2 (f_X11_numbers 0 a b c) (f_X12_numbers 111 a b c) := by
  intro μ ρ h
  have h' := RR_co (SaC_rfl μ) (SaR_thrown ρ 0) h
  generalize hρ : ms ρ 111 0 0 = ρ1 at h'
  unfold f_X11_numbers f_X12_numbers
  simp only [nm_eq, hρ]
  rw [bn_eq (trayOf_eq μ ha), bn_within ha rfl rfl]
  simp only [ha, hb, hc, show nrm 3 = 3 from rfl, show nrm 40 = 40 from rfl]
  by_cases g1 : 0 ≤ a ∧ a < 4
  · obtain ⟨a1, a2⟩ := g1
    rw [if_pos (⟨a1, a2⟩ : 0 ≤ a ∧ a < 4), if_neg (by omega : ¬ 90 + 2 * a < 0), if_pos (by omega : 0 ≤ a ∧ a ≤ 3), if_neg (by decide : ¬ nrm 1 = 0)]
    have w2 : ∀ (μ : Mem) (k : Int → Mem → Option (Int × Mem)), bn (f_X12_within b 0 3 μ) k = k (if 0 ≤ b ∧ b ≤ 3 then 1 else 0) μ := by
      intro μ k
      have := bn_within (μ := μ) (k := k) hb (rfl : nrm 0 = 0) (rfl : nrm 3 = 3)
      rwa [hb] at this
    have w3 : ∀ (μ : Mem) (k : Int → Mem → Option (Int × Mem)), bn (f_X12_within c 0 40 μ) k = k (if 0 ≤ c ∧ c ≤ 40 then 1 else 0) μ := by
      intro μ k
      have := bn_within (μ := μ) (k := k) hc (rfl : nrm 0 = 0) (rfl : nrm 40 = 40)
      rwa [hc] at this
    simp only [w2]
    by_cases g2 : 0 ≤ b ∧ b ≤ 3
    · obtain ⟨b1, b2⟩ := g2
      rw [if_neg (by omega : ¬ b < 0), if_pos b2, if_pos (⟨b1, b2⟩ : 0 ≤ b ∧ b ≤ 3), if_neg (by decide : ¬ nrm 1 = 0)]
      simp only [w3]
      by_cases g3 : 0 ≤ c ∧ c ≤ 40
      · obtain ⟨c1, c2⟩ := g3
        rw [if_neg (by omega : ¬ c < 0), if_pos c2, if_pos (⟨c1, c2⟩ : 0 ≤ c ∧ c ≤ 40), if_neg (by decide : ¬ nrm 1 = 0)]
        rw [gd_pos (tray_k a1 a2).1, gd_pos ⟨a1, a2⟩, gd_pos ⟨a1, a2⟩]
        simp only [f_X10_makeNew, nm_eq]
        rw [bn_eq (by rw [bn_eq (fill_l (tray_k a1 a2).2 _)])]
        have hn := numbers_w a1 a2 c1 c2 c.toNat 0 FU (by omega) (by unfold FU; omega) (ms (ms ρ1 126 a b) 127 a c)
        simp only [Int.ofNat_zero, Int.natCast_zero, Int.add_zero] at hn
        simp only [Int.reduceAdd]
        rw [hn]
        simp only [wp_some]
        refine ⟨trivial, RR_of (RA_c ?_ ?_ (RA_of h')) ?_⟩
        · intro x i x1 x2
          simp (disch := omega) only [flm_nc, ms_nc]
        · intro x i x1 x2
          simp (disch := omega) only [flm_nc, ms_nc]
        · intro t t1 t2
          by_cases e : t = a
          · subst e
            refine .inr ?_
            simp (disch := omega) only [flm_nc, ms_nc, ms_ni, ms_eq]
            refine ⟨trivial, trivial, b1, b2, trivial, c1, c2, fun i i1 i2 => ?_⟩
            rw [show 91 + 2 * t = 90 + 2 * t + 1 by omega]
            rw [flm_in (by omega) (by omega), flm_in (by omega) (by omega)]
            exact ⟨rfl, rfl⟩
          · refine TrayR_c (μ := μ) (ρ := ρ1) ?_ ?_ ?_ ?_ ?_ (h'.2.2.2.2.2 t t1 t2)
            · intro j; simp (disch := omega) only [flm_nc, ms_nc]
            · intro j; simp (disch := omega) only [flm_nc, ms_nc]
            · simp (disch := omega) only [flm_nc, ms_nc, ms_ni]
            · simp (disch := omega) only [flm_nc, ms_nc, ms_ni]
            · intro j j1 j2; simp (disch := omega) only [flm_out, ms_nc]
      · rw [if_neg g3, if_pos (by decide : nrm 0 = 0)]
        by_cases c1 : c < 0
        · rw [if_pos c1]; simp only [wp_some]; exact ⟨trivial, h'⟩
        · rw [if_neg c1, if_neg (by omega)]; simp only [wp_some]; exact ⟨trivial, h'⟩
    · rw [if_neg g2, if_pos (by decide : nrm 0 = 0)]
      by_cases b1 : b < 0
      · rw [if_pos b1]; simp only [wp_some]; exact ⟨trivial, h'⟩
      · rw [if_neg b1, if_neg (by omega)]; simp only [wp_some]; exact ⟨trivial, h'⟩
  · rw [if_neg g1, if_pos (by decide : (-1 : Int) < 0), if_neg (by omega : ¬ (0 ≤ a ∧ a ≤ 3)), if_pos (by decide : nrm 0 = 0)]
    simp only [wp_some]
    exact ⟨trivial, h'⟩
