theorem wears_ok {n La a K V N : Int} {T : Int → Int} {μ ρ : Mem} (h : LnS n T La μ ρ a K V N) (hK : K ≠ 24) : LRes n T La a μ ρ (f_X7_readWears 2 μ) (bn (f_X12_readLaw 111 0 ρ) fun _ ρ1 => f_X12_closes 111 ρ1) := by
  have e : ∀ x : Mem, f_X12_readLaw_j18 111 0 x = (nm (x 115 199) fun v1 => (nm (ms x 111 15 0) fun ρ3 => (bn (f_X12_readSum 111 0 ρ3) fun _ ρ9 => f_X12_readLaw_j49 111 0 v1 ρ9))) := by
    intro x
    unfold f_X12_readLaw_j18
    rw [nm_eq, nm_eq, nm_eq, nm_eq, if_pos (by decide : nrm 0 = 0)]
    rfl
  have := law_ok (w := 0) (fC := f_X7_readSum 2 0) (fR := f_X12_readSum 111 0) (.inl rfl) h hK (fun μ ρ a K V N hE => Res_le (rd_all 64 3 0 (by decide) (by decide) (by decide) μ ρ a K V N hE (fun q => absurd q (by decide))) (by decide)) (fun ρ h1 h4 => no3 (fu := 61) h1 h4)
  unfold f_X7_readWears f_X12_readLaw
  simp only [e]
  exact this
theorem may_ok {n La a K V N : Int} {T : Int → Int} {μ ρ : Mem} (h : LnS n T La μ ρ a K V N) (hK : K ≠ 24) : LRes n T La a μ ρ (f_X7_readMay 2 μ) (bn (f_X12_readLaw 111 1 ρ) fun _ ρ1 => f_X12_closes 111 ρ1) := by
  have e : ∀ x : Mem, f_X12_readLaw_j18 111 1 x = (nm (x 115 199) fun v1 => (nm (ms x 111 15 1) fun ρ3 => (bn (f_X12_readTruth 111 0 ρ3) fun _ ρ9 => f_X12_readLaw_j49 111 1 v1 ρ9))) := by
    intro x
    unfold f_X12_readLaw_j18
    rw [nm_eq, nm_eq, nm_eq, nm_eq, if_neg (by decide : ¬ nrm 1 = 0)]
    rfl
  have := law_ok (w := 1) (fC := f_X7_readTruth 2 0) (fR := f_X12_readTruth 111 0) (.inr rfl) h hK (fun μ ρ a K V N hE => Res_le (rd_all 64 5 0 (by decide) (by decide) (by decide) μ ρ a K V N hE (fun q => absurd q (by decide))) (by decide)) (fun ρ h1 h4 => no5 (fu := 58) h1 h4)
  unfold f_X7_readMay f_X12_readLaw
  simp only [e]
  exact this
