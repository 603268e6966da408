/-! what the odds leave as it is -/
def odB (μ : Mem) : Prop := (μ 108 0 = 109 ∨ μ 108 0 = 110) ∧ (μ 108 1 = 109 ∨ μ 108 1 = 110)
def FO (μ μ' : Mem) : Prop := FrC μ μ' ∧ odB μ'
theorem odB_of {μ : Mem} (h : OddR μ) : odB μ := by
  unfold OddR at h
  unfold odB
  omega
theorem FO_tr {a b c : Mem} (h : FO a b) (k : FO b c) : FO a c := ⟨h.1.trans k.1, k.2⟩
theorem FO_ms {μ : Mem} {c i v : Int} (h : odB μ) (hc : c = 109 ∨ c = 110) : FO μ (ms μ c i v) := by
  refine ⟨frc_ms (by omega) rfl, ?_⟩
  unfold odB
  rw [ms_nc (by omega), ms_nc (by omega)]
  exact h
theorem fo_put {x1 r : Int} {μ μ' : Mem} (h : odB μ) (hf : f_X5_putWhole 108 x1 μ = some (r, μ')) : FO μ μ' := by
  unfold f_X5_putWhole at hf
  split at hf
  · injection hf with hf; injection hf with _ hf; subst hf; exact ⟨frc_rf, h⟩
  · split at hf
    · injection hf with hf; injection hf with _ hf; subst hf; exact ⟨frc_rf, h⟩
    · obtain ⟨_, hf⟩ := gd_some hf
      obtain ⟨_, hf⟩ := gd_some hf
      obtain ⟨μ3, e, hf⟩ := nm_some hf
      injection hf with hf; injection hf with _ hf; subst hf
      rw [e]
      exact FO_ms h h.1
theorem max_same {a b r : Int} {μ μ' : Mem} (hf : f_J9_max_7cf53 a b μ = some (r, μ')) : μ' = μ := by
  unfold f_J9_max_7cf53 at hf
  repeat (first | split at hf | (injection hf with hf; injection hf with _ hf; exact hf.symm))
theorem fo_raise {x1 x2 r : Int} {μ μ' : Mem} (h : odB μ) (hf : f_X5_raise 108 x1 x2 μ = some (r, μ')) : FO μ μ' := by
  unfold f_X5_raise at hf
  split at hf
  · injection hf with hf; injection hf with _ hf; subst hf; exact ⟨frc_rf, h⟩
  · split at hf
    · injection hf with hf; injection hf with _ hf; subst hf; exact ⟨frc_rf, h⟩
    · obtain ⟨_, hf⟩ := gd_some hf
      obtain ⟨_, hf⟩ := gd_some hf
      obtain ⟨r6, μ5, e5, hf⟩ := bn_some hf
      rw [max_same e5] at hf
      obtain ⟨_, hf⟩ := gd_some hf
      obtain ⟨μ3, e, hf⟩ := nm_some hf
      injection hf with hf; injection hf with _ hf; subst hf
      rw [e]
      exact FO_ms h h.1
theorem lane_same {a b r : Int} {μ μ' : Mem} (hf : f_X3_hasLane a b μ = some (r, μ')) : μ' = μ := by
  unfold f_X3_hasLane at hf
  repeat (first | split at hf | (injection hf with hf; injection hf with _ hf; exact hf.symm))
theorem through_same {a b c d r : Int} {μ μ' : Mem} (hf : f_X5_throughTo a b c d μ = some (r, μ')) : μ' = μ := by
  unfold f_X5_throughTo at hf
  obtain ⟨_, hf⟩ := gd_some hf
  obtain ⟨r3, μ2, e2, hf⟩ := bn_some hf
  rw [lane_same e2] at hf
  split at hf
  · injection hf with hf; injection hf with _ hf; exact hf.symm
  · split at hf
    · injection hf with hf; injection hf with _ hf; exact hf.symm
    · split at hf
      · obtain ⟨_, hf⟩ := gd_some hf
        obtain ⟨_, hf⟩ := gd_some hf
        obtain ⟨_, hf⟩ := gd_some hf
        injection hf with hf; injection hf with _ hf; exact hf.symm
      · injection hf with hf; injection hf with _ hf; exact hf.symm
theorem fo_fill {v r : Int} {μ μ' : Mem} (h : odB μ) (hf : f_J7_fill_53178 (μ 108 0) v μ = some (r, μ')) : FO μ μ' := by
  refine ⟨frc_J7_fill_53178 (by have := h.1; omega) hf, ?_⟩
  have e : ∀ c, (c = 109 ∨ c = 110) → f_J7_fill_53178 c v μ = some (r, μ') → odB μ' := by
    intro c hc hf
    rcases hc with hc | hc <;> subst hc
    · rw [fill_i (n := 7) (by decide) (by decide) (by decide) μ] at hf
      injection hf with hf; injection hf with _ hf; subst hf
      unfold odB
      rw [flm_nc (by decide), flm_nc (by decide)]
      exact h
    · rw [fill_i (n := 7) (by decide) (by decide) (by decide) μ] at hf
      injection hf with hf; injection hf with _ hf; subst hf
      unfold odB
      rw [flm_nc (by decide), flm_nc (by decide)]
      exact h
  exact e _ h.1 hf
theorem fo_w77 {k33 : Int → Int → Int → Int → Int → Int → Mem → Option (Int × Mem)} (hk : ∀ x2 x3 x4 x5 x6 μ r μ', odB μ → k33 108 x2 x3 x4 x5 x6 μ = some (r, μ') → FrC μ μ') : ∀ (n : Nat) (x2 x3 x4 x5 x6 x8 : Int) (μ μ' : Mem) (r : Int), odB μ → f_X5_weigh_w77 k33 n 108 x2 x3 x4 x5 x6 x8 μ = some (r, μ') → FrC μ μ' := by
  have hj : ∀ x2 x3 x4 x5 x6 μ r μ', odB μ → f_X5_weigh_j166 k33 108 x2 x3 x4 x5 x6 μ = some (r, μ') → FrC μ μ' := by
    intro x2 x3 x4 x5 x6 μ r μ' h hf
    unfold f_X5_weigh_j166 at hf
    obtain ⟨μ1, e, hf⟩ := nm_some hf
    obtain ⟨r4, μ3, e3, hf⟩ := bn_some hf
    have o1 : odB μ1 := by
      rw [e]
      unfold odB
      rw [ms_ni (by decide), ms_ni (by decide)]
      exact h
    have f3 := fo_put o1 e3
    exact (frc_ms (by decide) e).trans (f3.1.trans (hk _ _ _ _ _ _ _ _ f3.2 hf))
  intro n
  induction n with
  | zero => intro _ _ _ _ _ _ _ _ _ _ hf; exact absurd hf (by intro q; cases q)
  | succ n ih =>
    intro x2 x3 x4 x5 x6 x8 μ μ' r h hf
    rw [f_X5_weigh_w77] at hf
    obtain ⟨_, hf⟩ := gd_some hf
    split at hf
    · exact hj _ _ _ _ _ _ _ _ h hf
    · split at hf
      · exact hj _ _ _ _ _ _ _ _ h hf
      · split at hf
        · exact ih _ _ _ _ _ _ _ _ _ h hf
        · obtain ⟨_, hf⟩ := gd_some hf
          obtain ⟨_, hf⟩ := gd_some hf
          obtain ⟨r8, μ7, e7, hf⟩ := bn_some hf
          rw [through_same e7] at hf
          obtain ⟨r11, μ10, e10, hf⟩ := bn_some hf
          have f10 := fo_raise h e10
          obtain ⟨_, hf⟩ := gd_some hf
          obtain ⟨_, hf⟩ := gd_some hf
          obtain ⟨r16, μ15, e15, hf⟩ := bn_some hf
          rw [through_same e15] at hf
          obtain ⟨r19, μ18, e18, hf⟩ := bn_some hf
          have f18 := fo_raise f10.2 e18
          exact f10.1.trans (f18.1.trans (ih _ _ _ _ _ _ _ _ _ f18.2 hf))
theorem fo_w33 : ∀ (n : Nat) (x2 x3 x4 x5 x6 : Int) (μ : Mem) (r : Int) (μ' : Mem), odB μ → f_X5_weigh_w33 n 108 x2 x3 x4 x5 x6 μ = some (r, μ') → FrC μ μ' := by
  intro n
  induction n with
  | zero => intro _ _ _ _ _ _ _ _ _ hf; exact absurd hf (by intro q; cases q)
  | succ n ih =>
    intro x2 x3 x4 x5 x6 μ r μ' h hf
    rw [f_X5_weigh_w33] at hf
    split at hf
    · injection hf with hf; injection hf with _ hf; subst hf; exact frc_rf
    · split at hf
      · injection hf with hf; injection hf with _ hf; subst hf; exact frc_rf
      · obtain ⟨μ3, e3, hf⟩ := nm_some hf
        obtain ⟨μ5, e5, hf⟩ := nm_some hf
        obtain ⟨r8, μ7, e7, hf⟩ := bn_some hf
        have o5 : odB μ5 := by
          rw [e5, e3]
          refine ⟨?_, ?_⟩
          · rw [ms_eq]; exact h.2
          · rw [ms_ni (by decide), ms_eq]; exact h.1
        have f7 := fo_fill o5 e7
        exact (frc_ms (by decide) e3).trans ((frc_ms (by decide) e5).trans (f7.1.trans (fo_w77 ih FU _ _ _ _ _ _ _ _ _ f7.2 hf)))
theorem fo_weigh {g N r : Int} {μ μ' : Mem} (hR : RR μ μ) (hf : f_X5_weigh 108 58 g N μ = some (r, μ')) : FrC μ μ' := by
  unfold f_X5_weigh at hf
  obtain ⟨_, hf⟩ := gd_some hf
  obtain ⟨r3, μ2, e2, hf⟩ := bn_some hf
  obtain ⟨s, μs, q1, q2, _⟩ := openLanes_eq (show JR μ 58 μ from hR.2.2.1)
  rw [q1] at e2
  have e2' : f_X0_openLanes 58 μ = some (r3, μ2) := q1.trans e2
  injection e2 with e2; injection e2 with _ e2
  rw [e2] at q2
  have o0 := odB_of hR.2.1.2.2
  have o2 : odB μ2 := by
    unfold odB
    rw [q2 108 0 (by unfold EssC; omega), q2 108 1 (by unfold EssC; omega)]
    exact o0
  obtain ⟨r6, μ5, e5, hf⟩ := bn_some hf
  have f5 := fo_fill o2 e5
  obtain ⟨μ8, e8, hf⟩ := nm_some hf
  have o8 : odB μ8 := by
    rw [e8]
    unfold odB
    rw [ms_ni (by decide), ms_ni (by decide)]
    exact f5.2
  obtain ⟨r11, μ10, e10, hf⟩ := bn_some hf
  have f10 := fo_put o8 e10
  exact (frc_X0_openLanes kk_58 e2').trans (f5.1.trans ((frc_ms (by decide) e8).trans (f10.1.trans (fo_w33 _ _ _ _ _ _ _ _ _ f10.2 hf))))
theorem fo_w27 : ∀ (n : Nat) (x4 x5 : Int) (μ μ' : Mem) (r : Int), f_X5_firstLikeliest_w27 n 108 58 x4 x5 μ = some (r, μ') → FrC μ μ' := by
  intro n
  induction n with
  | zero => intro _ _ _ _ _ hf; exact absurd hf (by intro q; cases q)
  | succ n ih =>
    intro x4 x5 μ μ' r hf
    rw [f_X5_firstLikeliest_w27] at hf
    split at hf
    · injection hf with hf; injection hf with _ hf; subst hf; exact frc_rf
    · obtain ⟨_, hf⟩ := gd_some hf
      obtain ⟨k3, hf⟩ := gd_some hf
      split at hf
      · injection hf with hf; injection hf with _ hf; subst hf; exact frc_rf
      · obtain ⟨r6, μ5, e5, hf⟩ := bn_some hf
        obtain ⟨r9, μ8, e8, hf⟩ := bn_some hf
        have f8 := (frc_X3_otherEnd k3 e5).trans (frc_X0_isOpen kk_58 e8)
        split at hf
        · exact f8.trans (ih _ _ _ _ _ hf)
        · obtain ⟨r13, μ12, e12, hf⟩ := bn_some hf
          rw [through_same e12] at hf
          split at hf
          · injection hf with hf; injection hf with _ hf; subst hf; exact f8
          · exact f8.trans (ih _ _ _ _ _ hf)
theorem fo_place {a b r : Int} {μ μ' : Mem} (hf : f_X3_hasPlace a b μ = some (r, μ')) : μ' = μ := by
  unfold f_X3_hasPlace at hf
  repeat (first | split at hf | (injection hf with hf; injection hf with _ hf; exact hf.symm))
theorem fo_chance {a b c r : Int} {μ μ' : Mem} (hR : RR μ μ) (hf : f_X11_chance 0 a b c μ = some (r, μ')) : FrC μ μ' := by
  unfold f_X11_chance at hf
  obtain ⟨_, hf⟩ := gd_some hf
  obtain ⟨r3, μ2, e2, hf⟩ := bn_some hf
  rw [fo_place e2] at hf
  have done : ∀ {v : Int}, some (v, μ) = some (r, μ') → FrC μ μ' := by
    intro v hf
    injection hf with hf; injection hf with _ hf; subst hf; exact frc_rf
  split at hf
  · exact done hf
  · split at hf
    · exact done hf
    · split at hf
      · split at hf
        · exact done hf
        · split at hf
          · obtain ⟨r11, μ10, e10, hf⟩ := bn_some hf
            have f10 := fo_weigh hR e10
            obtain ⟨r14, μ13, e13, hf⟩ := bn_some hf
            obtain ⟨r17, μ16, e16, hf⟩ := bn_some hf
            obtain ⟨r20, μ19, e19, hf⟩ := bn_some hf
            have f19 := f10.trans ((frc_X5_aboveAt kk_108 e13).trans ((frc_X5_belowAll kk_108 e16).trans (frc_X5_commonOf e19)))
            have fin : ∀ {v : Int}, some (v, μ19) = some (r, μ') → FrC μ μ' := by
              intro v hf
              injection hf with hf; injection hf with _ hf; subst hf; exact f19
            split at hf
            · split at hf
              · obtain ⟨_, hf⟩ := gd_some hf
                exact fin hf
              · obtain ⟨_, hf⟩ := gd_some hf
                exact fin hf
            · exact fin hf
          · exact done hf
      · exact done hf
theorem fo_bestBy {a b r : Int} {μ μ' : Mem} (hR : RR μ μ) (hf : f_X11_bestBy 0 a b μ = some (r, μ')) : FrC μ μ' := by
  unfold f_X11_bestBy at hf
  obtain ⟨_, hf⟩ := gd_some hf
  obtain ⟨r3, μ2, e2, hf⟩ := bn_some hf
  rw [fo_place e2] at hf
  have done : ∀ {v : Int}, some (v, μ) = some (r, μ') → FrC μ μ' := by
    intro v hf
    injection hf with hf; injection hf with _ hf; subst hf; exact frc_rf
  split at hf
  · exact done hf
  · split at hf
    · exact done hf
    · split at hf
      · split at hf
        · exact done hf
        · obtain ⟨r10, μ9, e9, hf⟩ := bn_some hf
          injection hf with hf; injection hf with _ hf; subst hf
          unfold f_X5_firstLikeliest at e9
          split at e9
          · obtain ⟨r3, μa, ea, e9⟩ := bn_some e9
            have fa := fo_weigh hR ea
            obtain ⟨_, e9⟩ := gd_some e9
            obtain ⟨r7, μ6, e6, e9⟩ := bn_some e9
            exact fa.trans ((frc_X5_aboveAt kk_108 e6).trans (fo_w27 _ _ _ _ _ _ e9))
          · injection e9 with e9; injection e9 with _ e9; subst e9; exact frc_rf
      · exact done hf
