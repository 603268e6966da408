def Op2E (f g : Mem → Option (Int × Mem)) : Prop := ∀ μ ρ, RR μ ρ → wp (f μ) (fun r μ' => wp (g ρ) (fun r' ρ' => r = r' ∧ RR μ' ρ'))
theorem op2e_at {f g : Mem → Option (Int × Mem)} (h : Op2E f g) (hf : ∀ μ r μ', f μ = some (r, μ') → FrC μ μ') (hg : ∀ μ r μ', g μ = some (r, μ') → FrR μ μ') {μ : Mem} (hR : RR μ μ) :
    ∃ r μ1 r' μ2, f μ = some (r, μ1) ∧ g μ1 = some (r', μ2) ∧ r = r' ∧ RR μ2 μ2 := by
  obtain ⟨r, μ1, e1, _⟩ := h μ μ hR
  obtain ⟨ra, μa, ea, rb, ρb, eb, en, er⟩ := h μ μ1 (RR_co (SaC_rfl μ) (SaR_frc (hf _ _ _ e1)) hR)
  rw [e1] at ea
  injection ea with ea
  injection ea with x1 x2
  subst x1; subst x2
  exact ⟨r, μ1, rb, ρb, e1, eb, en, RR_co (SaC_frr (hg _ _ _ eb)) (SaR_rfl _) er⟩
def cutM (v s : Int) : Int := if s = 0 then nrm (jb v) else if s = 1 then nrm (js v) else if s = 2 then nrm v else v
theorem cut_eq {v s : Int} (μ : Mem) (h1 : 0 ≤ s) (h2 : s ≤ 3) : f_X12_cut v s μ = some (cutM v s, μ) := by
  unfold f_X12_cut cutM
  rw [nrm_id (z := s) (by omega) (by omega), show nrm 1 = 1 from rfl, show nrm 2 = 2 from rfl]
  by_cases a : s = 0
  · rw [if_pos a, if_pos a]
  · rw [if_neg a, if_neg a]
    by_cases b : s = 1
    · rw [if_pos b, if_pos b]
    · rw [if_neg b, if_neg b]
      by_cases c : s = 2
      · rw [if_pos c, if_pos c]
      · rw [if_neg c, if_neg c]
theorem cutToSort_eq {t v s : Int} {μ : Mem} (e : μ t 2 = s) (h1 : 0 ≤ s) (h2 : s ≤ 3) : f_X10_cutToSort t v μ = some (cutM v s, μ) := by
  unfold f_X10_cutToSort cutM
  rw [e, nrm_id (z := s) (by omega) (by omega)]
  by_cases a : s = 0
  · rw [if_pos a, if_pos a]
  · rw [if_neg a, if_neg a]
    by_cases b : s = 1
    · rw [if_pos b, if_pos b]
    · rw [if_neg b, if_neg b]
      by_cases c : s = 2
      · rw [if_pos c, if_pos c]
      · rw [if_neg c, if_neg c]
theorem numberAt_eq {t i n : Int} {μ : Mem} (e : μ t 1 = n) (i1 : 0 ≤ i) (i2 : i < n) (h : n ≤ 40) : f_X10_numberAt t i μ = some (μ (t + 1) i, μ) := by
  unfold f_X10_numberAt
  rw [e, nrm_id (z := i) (by omega) (by omega), nrm_id (z := n) (by omega) (by omega), show nrm 40 = 40 from rfl, if_neg (by omega), if_neg (by omega), if_pos (by omega), gd_pos (by omega)]
theorem put_eq {t i n s v : Int} {μ : Mem} (e : μ t 1 = n) (e2 : μ t 2 = s) (h1 : 0 ≤ s) (h2 : s ≤ 3) (i1 : 0 ≤ i) (i2 : i < n) (h : n ≤ 40) : f_X10_put t i v μ = some (0, ms μ (t + 1) i (cutM v s)) := by
  unfold f_X10_put
  rw [e, nrm_id (z := i) (by omega) (by omega), nrm_id (z := n) (by omega) (by omega), show nrm 40 = 40 from rfl, if_neg (by omega), if_neg (by omega), if_neg (by omega), bn_eq (cutToSort_eq e2 h1 h2), gd_pos (by omega), nm_eq]
theorem noTray_eq {a : Int} {ρ : Mem} (ha : nrm a = a) (hs : ∀ t, 0 ≤ t → t < 4 → -1 ≤ ρ 126 t ∧ ρ 126 t ≤ 3) : f_X12_noTray 111 a ρ = some (if 0 ≤ a ∧ a < 4 then (if ρ 126 a = -1 then -6 else 0) else -2, ρ) := by
  unfold f_X12_noTray
  rw [bn_within ha rfl rfl, ha, show nrm (-1) = -1 from rfl, show (111 + 15 : Int) = 126 from rfl]
  by_cases g : 0 ≤ a ∧ a < 4
  · rw [if_pos (by omega : 0 ≤ a ∧ a ≤ 3), if_neg (by decide : ¬ nrm 1 = 0), gd_pos g, if_pos g]
    have := hs a g.1 g.2
    rw [nrm_id (by omega) (by omega)]
    by_cases c : ρ 126 a = -1
    · rw [if_pos c, if_pos c]
    · rw [if_neg c, if_neg c]
  · rw [if_neg (by omega : ¬ (0 ≤ a ∧ a ≤ 3)), if_pos (by decide : nrm 0 = 0), if_neg g]
theorem trays_s {μ ρ : Mem} (h : RR μ ρ) : ∀ t, 0 ≤ t → t < 4 → -1 ≤ ρ 126 t ∧ ρ 126 t ≤ 3 := by
  intro t t1 t2
  rcases h.2.2.2.2.2 t t1 t2 with h | h
  · omega
  · omega
theorem cutM_nrl {v s : Int} (hv : nrl v = v) : nrl (cutM v s) = cutM v s := by
  unfold cutM
  split
  · exact nrl_nrm _
  · split
    · exact nrl_nrm _
    · split
      · exact nrl_nrm _
      · exact hv
theorem op_write (a b v : Int) (ha : nrm a = a) (hb : nrm b = b) (hv : nrl v = v) : Op2E (f_X11_write 0 a b v) (f_X12_write 111 a b v) := by
  intro μ ρ h
  have h' := RR_co (SaC_rfl μ) (SaR_thrown ρ 0) h
  generalize hρ : ms ρ 111 0 0 = ρ1 at h'
  unfold f_X11_write f_X12_write
  simp only [nm_eq, hρ]
  rw [bn_eq (trayOf_eq μ ha), bn_eq (noTray_eq ha (trays_s h'))]
  by_cases g1 : 0 ≤ a ∧ a < 4
  · obtain ⟨a1, a2⟩ := g1
    simp only [if_pos (⟨a1, a2⟩ : 0 ≤ a ∧ a < 4)]
    rw [if_neg (by omega : ¬ 90 + 2 * a < 0), gd_pos (tray_k a1 a2).1, ha, hb]
    rcases h'.2.2.2.2.2 a a1 a2 with ⟨e1, e2⟩ | ⟨e1, e2, e3, e4, e5, e6, e7, e8⟩
    · rw [e1, if_neg (by decide : ¬ nrm 1 = 0), if_pos e2, if_neg (by decide : ¬ nrm (-6) = 0)]
      simp only [wp_some]
      exact ⟨rfl, h'⟩
    · rw [e1, if_pos (by decide : nrm 0 = 0), if_neg (by omega : ¬ ρ1 126 a = -1), if_pos (by decide : nrm 0 = 0), gd_pos ⟨a1, a2⟩, e5]
      rw [nrm_id (z := ρ1 127 a) (by omega) (by omega)]
      simp only [Int.reduceAdd]
      have hw := bn_within (μ := ρ1) (a := b) (b := 0) (c := nrm (ρ1 127 a - 1)) (k := fun r9 μ8 =>
          if nrm r9 = 0 then some (-7, μ8)
          else
            gd (0 ≤ a ∧ a < 4)
              (bn (f_X12_cut v (μ8 126 a) μ8) fun r14 μ13 =>
                gd (0 ≤ nrm (40 * a + b) ∧ nrm (40 * a + b) < 160)
                  (gd (0 ≤ nrm (40 * a + b) ∧ nrm (40 * a + b) < 160)
                    (some (ms μ13 128 (nrm (40 * a + b)) r14 128 (nrm (40 * a + b)), ms μ13 128 (nrm (40 * a + b)) r14))))) hb rfl (nrm_nrm _)
      rw [hb] at hw
      rw [hw, nrm_id (z := ρ1 127 a - 1) (by omega) (by omega)]
      by_cases b1 : b < 0
      · rw [if_pos b1, if_neg (by omega : ¬ (0 ≤ b ∧ b ≤ ρ1 127 a - 1)), if_pos (by decide : nrm 0 = 0)]
        simp only [wp_some]
        exact ⟨trivial, h'⟩
      · rw [if_neg b1]
        by_cases b2 : b < ρ1 127 a
        · rw [if_pos b2, if_pos (by omega : 0 ≤ b ∧ b ≤ ρ1 127 a - 1), if_neg (by decide : ¬ nrm 1 = 0), gd_pos ⟨a1, a2⟩]
          rw [bn_eq (put_eq e5 e2 e3 e4 (by omega) b2 e7), bn_eq (numberAt_eq (n := ρ1 127 a) (by rw [ms_nc (by omega)]; exact e5) (by omega) b2 e7), bn_eq (cut_eq ρ1 e3 e4)]
          rw [nrm_id (z := 40 * a + b) (by omega) (by omega), gd_pos (by omega), gd_pos (by omega)]
          simp only [wp_some, ms_eq]
          refine ⟨trivial, RR_of (RA_c ?_ ?_ (RA_of h')) ?_⟩
          · intro x i x1 x2
            simp (disch := omega) only [ms_nc]
          · intro x i x1 x2
            simp (disch := omega) only [ms_nc]
          · intro t t1 t2
            by_cases e : t = a
            · subst e
              refine .inr ?_
              simp (disch := omega) only [ms_nc]
              refine ⟨e1, e2, e3, e4, e5, e6, e7, fun i i1 i2 => ?_⟩
              by_cases q : i = b
              · subst q
                rw [show 91 + 2 * t = 90 + 2 * t + 1 by omega, ms_eq, ms_eq]
                exact ⟨rfl, cutM_nrl hv⟩
              · rw [ms_ni q, ms_ni (by omega)]
                exact e8 i i1 i2
            · refine TrayR_c (μ := μ) (ρ := ρ1) ?_ ?_ ?_ ?_ ?_ (h'.2.2.2.2.2 t t1 t2)
              · intro j; simp (disch := omega) only [ms_nc]
              · intro j; simp (disch := omega) only [ms_nc]
              · simp (disch := omega) only [ms_nc]
              · simp (disch := omega) only [ms_nc]
              · intro j j1 j2; simp (disch := omega) only [ms_ni]
        · rw [if_neg b2, if_neg (by omega : ¬ (0 ≤ b ∧ b ≤ ρ1 127 a - 1)), if_pos (by decide : nrm 0 = 0)]
          simp only [wp_some]
          exact ⟨trivial, h'⟩
  · simp only [if_neg g1]
    rw [if_pos (by decide : (-1 : Int) < 0), if_neg (by decide : ¬ nrm (-2) = 0)]
    simp only [wp_some]
    exact ⟨rfl, h'⟩
