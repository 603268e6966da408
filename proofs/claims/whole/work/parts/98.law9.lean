/-! the law's walk -/
theorem sx_n (xs : Nat → Int32) (i : Int) : nrm (sx xs i) = sx xs i := by
  unfold sx
  exact nrm_id (Int32.le_toInt _) (Int32.toInt_lt _)
theorem nrl_kor (a b : Int) : nrl (kor a b) = kor a b := by
  unfold kor
  exact nrl_id (Int64.le_toInt _) (Int64.toInt_lt _)
theorem law_go {f g K : Mem → Option (Int × Mem)} {μ : Mem} (h : Op2 f g) (hf : ∀ μ r μ', f μ = some (r, μ') → FrC μ μ') (hg : ∀ μ r μ', g μ = some (r, μ') → FrR μ μ') (hR : RR μ μ) (k : ∀ μ', RR μ' μ' → ∃ μ'', K μ' = some (1, μ'')) :
    ∃ μ', (bn (f μ) fun r μ1 => (bn (g μ1) fun r' μ2 => (if nrm r = nrm r' then K μ2 else some (0, μ2)))) = some (1, μ') := by
  obtain ⟨r, μ1, r', μ2, e1, e2, e3, e4⟩ := op2_at h hf hg hR
  obtain ⟨μ3, e5⟩ := k μ2 e4
  refine ⟨μ3, ?_⟩
  rw [bn_eq e1, bn_eq e2, if_pos e3, e5]
theorem law_go1 {f g K : Mem → Option (Int × Mem)} {μ : Mem} (h : Op2 f g) (hf : ∀ μ r μ', RR μ μ → f μ = some (r, μ') → FrC μ μ') (hg : ∀ μ r μ', g μ = some (r, μ') → FrR μ μ') (hR : RR μ μ) (k : ∀ μ', RR μ' μ' → ∃ μ'', K μ' = some (1, μ'')) :
    ∃ μ', (bn (f μ) fun r μ1 => (bn (g μ1) fun r' μ2 => (if nrm r = nrm r' then K μ2 else some (0, μ2)))) = some (1, μ') := by
  obtain ⟨r, μ1, e1, _⟩ := h μ μ hR
  obtain ⟨ra, μa, ea, rb, ρb, eb, en, er⟩ := h μ μ1 (RR_co (SaC_rfl μ) (SaR_frc (hf _ _ _ hR e1)) hR)
  rw [e1] at ea
  injection ea with ea
  injection ea with x1 x2
  subst x1; subst x2
  obtain ⟨μ3, e5⟩ := k ρb (RR_co (SaC_frr (hg _ _ _ eb)) (SaR_rfl _) er)
  refine ⟨μ3, ?_⟩
  rw [bn_eq e1, bn_eq eb, if_pos en, e5]
theorem law_goE {f g K : Mem → Option (Int × Mem)} {μ : Mem} (h : Op2E f g) (hf : ∀ μ r μ', f μ = some (r, μ') → FrC μ μ') (hg : ∀ μ r μ', g μ = some (r, μ') → FrR μ μ') (hR : RR μ μ) (k : ∀ μ', RR μ' μ' → ∃ μ'', K μ' = some (1, μ'')) :
    ∃ μ', (bn (f μ) fun r μ1 => (bn (g μ1) fun r' μ2 => (if nrm (kcmp r r') = 0 then K μ2 else some (0, μ2)))) = some (1, μ') := by
  obtain ⟨r, μ1, r', μ2, e1, e2, e3, e4⟩ := op2e_at h hf hg hR
  obtain ⟨μ3, e5⟩ := k μ2 e4
  refine ⟨μ3, ?_⟩
  rw [bn_eq e1, bn_eq e2, if_pos (kcmp_zero.mpr (by rw [e3])), e5]
theorem ite_ex {P : Prop} [Decidable P] {a b : Option (Int × Mem)} (h1 : P → ∃ μ', a = some (1, μ')) (h2 : ¬ P → ∃ μ', b = some (1, μ')) : ∃ μ', (if P then a else b) = some (1, μ') := by
  by_cases h : P
  · rw [if_pos h]; exact h1 h
  · rw [if_neg h]; exact h2 h
theorem gd_ex {P : Prop} [Decidable P] {a : Option (Int × Mem)} (h : P) (k : ∃ μ', a = some (1, μ')) : ∃ μ', gd P a = some (1, μ') := by
  rw [gd_pos h]; exact k
set_option maxHeartbeats 4000000 in
set_option maxRecDepth 20000 in
theorem law_all {Ln : Nat} (hL : Ln ≤ 3072) (xs : Nat → Int32) (op_land : ∀ a, nrm a = a → Op2 (f_X11_land 0 a) (f_X12_land 111 a)) : ∀ (d n : Nat) (x3 : Int) (μ : Mem), 0 ≤ x3 → x3 ≤ 3072 → (Ln : Int) < x3 + 6 * d + 6 → d < n → RR μ μ → ∃ μ', f_law Ln xs n x3 μ = some (1, μ') := by
  intro d
  induction d with
  | zero =>
    intro n x3 μ x0 x9 xd hn hR
    obtain ⟨n, rfl⟩ : ∃ q, n = q + 1 := ⟨n - 1, by omega⟩
    refine ⟨μ, ?_⟩
    rw [f_law, if_pos (by rw [nrm_id (z := x3) (by omega) (by omega), nrm_id (z := (Ln : Int) - 6) (by omega) (by omega)]; omega)]
  | succ d ih =>
    intro n x3 μ x0 x9 xd hn hR
    obtain ⟨n, rfl⟩ : ∃ q, n = q + 1 := ⟨n - 1, by omega⟩
    rw [f_law]
    refine ite_ex (fun _ => ⟨μ, rfl⟩) (fun hx => ?_)
    rw [nrm_id (z := x3) (by omega) (by omega), nrm_id (z := (Ln : Int) - 6) (by omega) (by omega)] at hx
    have k : ∀ μ', RR μ' μ' → ∃ μ'', f_law Ln xs n (x3 + 6) μ' = some (1, μ'') := fun μ' h => ih n (x3 + 6) μ' (by omega) (by omega) (by omega) (by omega) h
    have b : ∀ j, 0 ≤ j → j ≤ 5 → 0 ≤ nrm (x3 + j) ∧ nrm (x3 + j) < (Ln : Int) := fun j j0 j5 => by rw [nrm_id (z := x3 + j) (by omega) (by omega)]; omega
    refine gd_ex (by have := b 0 (by decide) (by decide); rwa [Int.add_zero] at this) ?_
    refine ite_ex (fun _ => ?_) (fun _ => ?_)
    · refine gd_ex (b 1 (by decide) (by decide)) ?_
      refine gd_ex (b 2 (by decide) (by decide)) ?_
      refine gd_ex (b 3 (by decide) (by decide)) ?_
      refine gd_ex (b 4 (by decide) (by decide)) ?_
      refine gd_ex (b 5 (by decide) (by decide)) ?_
      exact law_go (op_feed _ _ _ _ _) (fun _ _ _ h => frc_X11_feed kk_0 h) (fun _ _ _ h => frr_X12_feed kk_111 h) hR k
    refine ite_ex (fun _ => ?_) (fun _ => ?_)
    · refine gd_ex (b 1 (by decide) (by decide)) ?_
      exact law_go (op_land _ (sx_n _ _)) (fun _ _ _ h => frc_X11_land kk_0 h) (fun _ _ _ h => frr_X12_land kk_111 h) hR k
    refine ite_ex (fun _ => ?_) (fun _ => ?_)
    · refine gd_ex (b 1 (by decide) (by decide)) ?_
      exact law_go (op_fault _) (fun _ _ _ h => frc_X11_fault kk_0 h) (fun _ _ _ h => frr_X12_fault kk_111 h) hR k
    refine ite_ex (fun _ => ?_) (fun _ => ?_)
    · refine gd_ex (b 1 (by decide) (by decide)) ?_
      refine gd_ex (b 2 (by decide) (by decide)) ?_
      exact law_go (op_lane _ _ (sx_n _ _)) (fun _ _ _ h => frc_X11_lane kk_0 h) (fun _ _ _ h => frr_X12_lane kk_111 h) hR k
    refine ite_ex (fun _ => ?_) (fun _ => ?_)
    · refine gd_ex (b 1 (by decide) (by decide)) ?_
      exact law_go (op_why _ (sx_n _ _)) (fun _ _ _ h => frc_X11_why kk_0 h) (fun _ _ _ h => frr_X12_why kk_111 h) hR k
    refine ite_ex (fun _ => ?_) (fun _ => ?_)
    · refine gd_ex (b 1 (by decide) (by decide)) ?_
      exact law_go (op_worn _ (sx_n _ _)) (fun _ _ _ h => frc_X11_worn kk_0 h) (fun _ _ _ h => frr_X12_worn kk_111 h) hR k
    refine ite_ex (fun _ => ?_) (fun _ => ?_)
    · refine gd_ex (b 1 (by decide) (by decide)) ?_
      exact law_go (op_fillings _ (sx_n _ _)) (fun _ _ _ h => frc_X11_fillings kk_0 h) (fun _ _ _ h => frr_X12_fillings kk_111 h) hR k
    refine ite_ex (fun _ => ?_) (fun _ => ?_)
    · refine gd_ex (b 1 (by decide) (by decide)) ?_
      exact law_go (op_go _ (sx_n _ _)) (fun _ _ _ h => frc_X11_go kk_0 h) (fun _ _ _ h => frr_X12_go kk_111 h) hR k
    refine ite_ex (fun _ => ?_) (fun _ => ?_)
    · refine gd_ex (b 1 (by decide) (by decide)) ?_
      exact law_go (op_fill _ (sx_n _ _)) (fun _ _ _ h => frc_X11_fill kk_0 h) (fun _ _ _ h => frr_X12_fill kk_111 h) hR k
    refine ite_ex (fun _ => ?_) (fun _ => ?_)
    · refine gd_ex (b 1 (by decide) (by decide)) ?_
      exact law_go (op_dig _ (sx_n _ _)) (fun _ _ _ h => frc_X11_dig kk_0 h) (fun _ _ _ h => frr_X12_dig kk_111 h) hR k
    refine ite_ex (fun _ => ?_) (fun _ => ?_)
    · refine gd_ex (b 1 (by decide) (by decide)) ?_
      exact law_go (op_turn _ (sx_n _ _)) (fun _ _ _ h => frc_X11_turn kk_0 h) (fun _ _ _ h => frr_X12_turn kk_111 h) hR k
    refine ite_ex (fun _ => ?_) (fun _ => ?_)
    · refine gd_ex (b 1 (by decide) (by decide)) ?_
      exact law_go (op_seasons _ (sx_n _ _)) (fun _ _ _ h => frc_X11_seasons kk_0 h) (fun _ _ _ h => frr_X12_seasons kk_111 h) hR k
    refine ite_ex (fun _ => ?_) (fun _ => ?_)
    · refine gd_ex (b 1 (by decide) (by decide)) ?_
      exact law_go (op_rain _ (sx_n _ _)) (fun _ _ _ h => frc_X11_rain kk_0 h) (fun _ _ _ h => frr_X12_rain kk_111 h) hR k
    refine ite_ex (fun _ => ?_) (fun _ => ?_)
    · refine gd_ex (b 1 (by decide) (by decide)) ?_
      exact law_go (op_undo _ (sx_n _ _)) (fun _ _ _ h => frc_X11_undo kk_0 h) (fun _ _ _ h => frr_X12_undo kk_111 h) hR k
    refine ite_ex (fun _ => ?_) (fun _ => ?_)
    · refine gd_ex (b 1 (by decide) (by decide)) ?_
      refine gd_ex (b 2 (by decide) (by decide)) ?_
      exact law_go (op_judge _ _ (sx_n _ _) (sx_n _ _)) (fun _ _ _ h => frc_X11_judge kk_0 h) (fun _ _ _ h => frr_X12_judge kk_111 h) hR k
    refine ite_ex (fun _ => ?_) (fun _ => ?_)
    · refine gd_ex (b 1 (by decide) (by decide)) ?_
      exact law_go (op_perform _ (sx_n _ _)) (fun _ _ _ h => frc_X11_perform kk_0 h) (fun _ _ _ h => frr_X12_perform kk_111 h) hR k
    refine ite_ex (fun _ => ?_) (fun _ => ?_)
    · refine gd_ex (b 1 (by decide) (by decide)) ?_
      refine gd_ex (b 2 (by decide) (by decide)) ?_
      exact law_go (op_year _ _ (sx_n _ _)) (fun _ _ _ h => frc_X11_year kk_0 h) (fun _ _ _ h => frr_X12_year kk_111 h) hR k
    refine ite_ex (fun _ => ?_) (fun _ => ?_)
    · exact law_go (op_reach) (fun _ _ _ h => frc_X11_reach kk_0 h) (fun _ _ _ h => frr_X12_reach kk_111 h) hR k
    refine ite_ex (fun _ => ?_) (fun _ => ?_)
    · refine gd_ex (b 1 (by decide) (by decide)) ?_
      exact law_go (op_soonest _ (sx_n _ _)) (fun _ _ _ h => frc_X11_soonest kk_0 h) (fun _ _ _ h => frr_X12_soonest kk_111 h) hR k
    refine ite_ex (fun _ => ?_) (fun _ => ?_)
    · refine gd_ex (b 1 (by decide) (by decide)) ?_
      refine gd_ex (b 2 (by decide) (by decide)) ?_
      exact law_go (op_rows _ _ (sx_n _ _) (sx_n _ _)) (fun _ _ _ h => frc_X11_rows kk_0 h) (fun _ _ _ h => frr_X12_rows kk_111 h) hR k
    refine ite_ex (fun _ => ?_) (fun _ => ?_)
    · refine gd_ex (b 1 (by decide) (by decide)) ?_
      refine gd_ex (b 2 (by decide) (by decide)) ?_
      exact law_go (op_way _ _ (sx_n _ _) (sx_n _ _)) (fun _ _ _ h => frc_X11_way kk_0 h) (fun _ _ _ h => frr_X12_way kk_111 h) hR k
    refine ite_ex (fun _ => ?_) (fun _ => ?_)
    · refine gd_ex (b 1 (by decide) (by decide)) ?_
      exact law_go (op_toAndFro _ (sx_n _ _)) (fun _ _ _ h => frc_X11_toAndFro kk_0 h) (fun _ _ _ h => frr_X12_toAndFro kk_111 h) hR k
    refine ite_ex (fun _ => ?_) (fun _ => ?_)
    · refine gd_ex (b 1 (by decide) (by decide)) ?_
      refine gd_ex (b 2 (by decide) (by decide)) ?_
      exact law_go (op_cheapest _ _ (sx_n _ _) (sx_n _ _)) (fun _ _ _ h => frc_X11_cheapest kk_0 h) (fun _ _ _ h => frr_X12_cheapest kk_111 h) hR k
    refine ite_ex (fun _ => ?_) (fun _ => ?_)
    · refine gd_ex (b 1 (by decide) (by decide)) ?_
      refine gd_ex (b 2 (by decide) (by decide)) ?_
      exact law_go (op_cheapBy _ _ (sx_n _ _) (sx_n _ _)) (fun _ _ _ h => frc_X11_cheapBy kk_0 h) (fun _ _ _ h => frr_X12_cheapBy kk_111 h) hR k
    refine ite_ex (fun _ => ?_) (fun _ => ?_)
    · refine gd_ex (b 1 (by decide) (by decide)) ?_
      exact law_go (op_joins _ (sx_n _ _)) (fun _ _ _ h => frc_X11_joins kk_0 h) (fun _ _ _ h => frr_X12_joins kk_111 h) hR k
    refine ite_ex (fun _ => ?_) (fun _ => ?_)
    · refine gd_ex (b 1 (by decide) (by decide)) ?_
      refine gd_ex (b 2 (by decide) (by decide)) ?_
      exact law_go (op_shuts _ _ (sx_n _ _) (sx_n _ _)) (fun _ _ _ h => frc_X11_shuts kk_0 h) (fun _ _ _ h => frr_X12_shuts kk_111 h) hR k
    refine ite_ex (fun _ => ?_) (fun _ => ?_)
    · refine gd_ex (b 1 (by decide) (by decide)) ?_
      exact law_go (op_turning _ (sx_n _ _)) (fun _ _ _ h => frc_X11_turning kk_0 h) (fun _ _ _ h => frr_X12_turning kk_111 h) hR k
    refine ite_ex (fun _ => ?_) (fun _ => ?_)
    · refine gd_ex (b 1 (by decide) (by decide)) ?_
      exact law_go (op_when _ (sx_n _ _)) (fun _ _ _ h => frc_X11_when kk_0 h) (fun _ _ _ h => frr_X12_when kk_111 h) hR k
    refine ite_ex (fun _ => ?_) (fun _ => ?_)
    · refine gd_ex (b 1 (by decide) (by decide)) ?_
      exact law_go (op_starts _ (sx_n _ _)) (fun _ _ _ h => frc_X11_starts kk_0 h) (fun _ _ _ h => frr_X12_starts kk_111 h) hR k
    refine ite_ex (fun _ => ?_) (fun _ => ?_)
    · refine gd_ex (b 1 (by decide) (by decide)) ?_
      exact law_go (op_rains _ (sx_n _ _)) (fun _ _ _ h => frc_X11_rains kk_0 h) (fun _ _ _ h => frr_X12_rains kk_111 h) hR k
    refine ite_ex (fun _ => ?_) (fun _ => ?_)
    · refine gd_ex (b 1 (by decide) (by decide)) ?_
      exact law_go (op_attempt _ (sx_n _ _)) (fun _ _ _ h => frc_X11_attempt kk_0 h) (fun _ _ _ h => frr_X12_attempt kk_111 h) hR k
    refine ite_ex (fun _ => ?_) (fun _ => ?_)
    · exact law_go (op_wins) (fun _ _ _ h => frc_X11_wins kk_0 h) (fun _ _ _ h => frr_X12_wins kk_111 h) hR k
    refine ite_ex (fun _ => ?_) (fun _ => ?_)
    · exact law_go (op_best) (fun _ _ _ h => frc_X11_best kk_0 h) (fun _ _ _ h => frr_X12_best kk_111 h) hR k
    refine ite_ex (fun _ => ?_) (fun _ => ?_)
    · refine gd_ex (b 1 (by decide) (by decide)) ?_
      refine gd_ex (b 2 (by decide) (by decide)) ?_
      refine gd_ex (b 3 (by decide) (by decide)) ?_
      exact law_go1 (op_chance _ _ _ (sx_n _ _) (sx_n _ _) (sx_n _ _)) (fun _ _ _ hR h => fo_chance hR h) (fun _ _ _ h => frr_X12_chance kk_111 h) hR k
    refine ite_ex (fun _ => ?_) (fun _ => ?_)
    · refine gd_ex (b 1 (by decide) (by decide)) ?_
      refine gd_ex (b 2 (by decide) (by decide)) ?_
      exact law_go1 (op_bestBy _ _ (sx_n _ _) (sx_n _ _)) (fun _ _ _ hR h => fo_bestBy hR h) (fun _ _ _ h => frr_X12_bestBy kk_111 h) hR k
    refine ite_ex (fun _ => ?_) (fun _ => ?_)
    · refine gd_ex (b 1 (by decide) (by decide)) ?_
      refine gd_ex (b 2 (by decide) (by decide)) ?_
      refine gd_ex (b 3 (by decide) (by decide)) ?_
      exact law_go (op_numbers _ _ _ (sx_n _ _) (sx_n _ _) (sx_n _ _)) (fun _ _ _ h => frc_X11_numbers kk_0 h) (fun _ _ _ h => frr_X12_numbers kk_111 h) hR k
    refine ite_ex (fun _ => ?_) (fun _ => ?_)
    · refine gd_ex (b 1 (by decide) (by decide)) ?_
      refine gd_ex (b 2 (by decide) (by decide)) ?_
      refine gd_ex (b 3 (by decide) (by decide)) ?_
      refine gd_ex (b 4 (by decide) (by decide)) ?_
      exact law_goE (op_write _ _ _ (sx_n _ _) (sx_n _ _) (nrl_kor _ _)) (fun _ _ _ h => frc_X11_write kk_0 h) (fun _ _ _ h => frr_X12_write kk_111 h) hR k
    refine ite_ex (fun _ => ?_) (fun _ => ?_)
    · refine gd_ex (b 1 (by decide) (by decide)) ?_
      refine gd_ex (b 2 (by decide) (by decide)) ?_
      exact law_go (op_lists _ _ (sx_n _ _) (sx_n _ _)) (fun _ _ _ h => frc_X11_lists kk_0 h) (fun _ _ _ h => frr_X12_lists kk_111 h) hR k
    refine ite_ex (fun _ => ?_) (fun _ => ?_)
    · refine gd_ex (b 1 (by decide) (by decide)) ?_
      exact law_go (op_image _ (sx_n _ _)) (fun _ _ _ h => frc_X11_image kk_0 h) (fun _ _ _ h => frr_X12_image kk_111 h) hR k
    refine ite_ex (fun _ => ?_) (fun _ => ?_)
    · refine gd_ex (b 1 (by decide) (by decide)) ?_
      exact law_go (op_restore _ (sx_n _ _)) (fun _ _ _ h => frc_X11_restore kk_0 h) (fun _ _ _ h => frr_X12_restore kk_111 h) hR k
    refine ite_ex (fun _ => ?_) (fun _ => ?_)
    · refine gd_ex (b 1 (by decide) (by decide)) ?_
      exact law_go (op_count _) (fun _ _ _ h => frc_X11_count kk_0 h) (fun _ _ _ h => frr_X12_count kk_111 h) hR k
    exact k μ hR
/-- Every law run ends with yes, if land is alike. -/
theorem law_yes (op_land : ∀ a, nrm a = a → Op2 (f_X11_land 0 a) (f_X12_land 111 a)) {Ln : Nat} (hL : Ln ≤ 3072) (xs : Nat → Int32) : ∃ μ', f_law Ln xs 600 0 mu0 = some (1, μ') := law_all hL xs op_land 512 600 0 mu0 (by decide) (by decide) (by omega) (by decide) RR_0
