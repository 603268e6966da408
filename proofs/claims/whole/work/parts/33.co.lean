theorem rowA_co {ρ ρ' : Mem} (s : SaR ρ ρ') (B : Int) : rowA ρ' B = rowA ρ B := by
  funext i
  exact s 112 (B + i) (by unfold EssR; omega)
theorem LR_sa {μ μ' : Mem} {La : Int} {A : Int → Int} (hL : isL La) (s : SaC μ μ') (h : LR μ La A) : LR μ' La A := by
  refine LR_co hL ?_ h
  intro c i h1 h2 h3
  refine s c i ?_
  unfold isL at hL
  unfold EssC
  omega
theorem CR_sa {μ μ' : Mem} {C o : Int} {A : Int → Int} (hC : C = 58 ∨ (62 ≤ C ∧ C ≤ 96)) (s : SaC μ μ') (h : CR μ C A o) : CR μ' C A o :=
  CR_co (fun i => s C i (by unfold EssC; omega)) (fun i => s (C + 1) i (by unfold EssC; omega)) h
theorem RR_co {μ μ' ρ ρ' : Mem} (s : SaC μ μ') (t : SaR ρ ρ') (h : RR μ ρ) : RR μ' ρ' := by
  obtain ⟨h1, h2, h3, h4, ⟨h5, h6, h7⟩, h8⟩ := h
  have e0 : ∀ i, μ' 0 i = μ 0 i := fun i => s 0 i (by unfold EssC; omega)
  have e1 : ∀ i, μ' 1 i = μ 1 i := fun i => s 1 i (by unfold EssC; omega)
  have e58 : ∀ i, μ' 58 i = μ 58 i := fun i => s 58 i (by unfold EssC; omega)
  have e62 : ∀ i, μ' 62 i = μ 62 i := fun i => s 62 i (by unfold EssC; omega)
  have f5 : ρ' 111 5 = ρ 111 5 := t 111 5 (by unfold EssR; omega)
  have f13 : ρ' 111 13 = ρ 111 13 := t 111 13 (by unfold EssR; omega)
  have f14 : ρ' 111 14 = ρ 111 14 := t 111 14 (by unfold EssR; omega)
  have f112 : ∀ i, ρ' 112 i = ρ 112 i := fun i => t 112 i (by unfold EssR; omega)
  have f113 : ∀ i, ρ' 113 i = ρ 113 i := fun i => t 113 i (by unfold EssR; omega)
  have f114 : ∀ i, ρ' 114 i = ρ 114 i := fun i => t 114 i (by unfold EssR; omega)
  have f126 : ∀ i, ρ' 126 i = ρ 126 i := fun i => t 126 i (by unfold EssR; omega)
  have f127 : ∀ i, ρ' 127 i = ρ 127 i := fun i => t 127 i (by unfold EssR; omega)
  have f128 : ∀ i, ρ' 128 i = ρ 128 i := fun i => t 128 i (by unfold EssR; omega)
  have im : ∀ i, (i = 0 ∨ i = 1) → ImgR μ ρ i → ImgR μ' ρ' i := by
    intro i hi h
    have e : μ' (85 + 2 * i) 0 = μ (85 + 2 * i) 0 := s _ 0 (by unfold EssC; omega)
    unfold ImgR at h ⊢
    rw [e, f113, rowA_co t]
    obtain ⟨a, b, c⟩ := h
    refine ⟨a, b, fun x => ?_⟩
    obtain ⟨c1, c2⟩ := c x
    exact ⟨LR_sa b s c1, CR_sa (by omega) s c2⟩
  refine ⟨?_, ?_, ?_, ?_, ⟨im 0 (.inl rfl) h5, im 1 (.inr rfl) h6, ?_⟩, ?_⟩
  · unfold TapeR at h1 ⊢
    simp only [e0, e1, f5, f114]
    exact h1
  · unfold FaultR OddR at h2 ⊢
    simp only [e0, f13, f14, s 108 0 (by unfold EssC; omega), s 108 1 (by unfold EssC; omega)]
    exact h2
  · unfold NowR at h3 ⊢
    rw [e58, rowA_co t]
    exact ⟨h3.1, LR_sa h3.1 s h3.2.1, CR_sa (.inl rfl) s h3.2.2⟩
  · unfold HistR at h4 ⊢
    simp only [e58, e62, f112, rowA_co t]
    obtain ⟨a, b, c, d, e, f⟩ := h4
    refine ⟨a, b, c, d, e, fun k k1 k2 => ?_⟩
    obtain ⟨g, g'⟩ := f k k1 k2
    refine ⟨CR_sa (by omega) s g, ?_⟩
    rw [s _ 0 (by unfold EssC; omega)]
    exact g'
  · rw [e0, f113, f113]; exact h7
  · intro i i1 i2
    have h := h8 i i1 i2
    unfold TrayR at h ⊢
    simp only [f126, f127, f128]
    rw [s (90 + 2 * i) 0 (by unfold EssC; omega), s (90 + 2 * i) 1 (by unfold EssC; omega), s (90 + 2 * i) 2 (by unfold EssC; omega)]
    rcases h with h | ⟨a, b, c, d, e, f, g, k⟩
    · exact .inl h
    · refine .inr ⟨a, b, c, d, e, f, g, fun j j1 j2 => ?_⟩
      rw [s (91 + 2 * i) j (by unfold EssC; omega)]
      exact k j j1 j2

/-- Two calls alike. -/
def Op2 (f g : Mem → Option (Int × Mem)) : Prop := ∀ μ ρ, RR μ ρ → wp (f μ) (fun r μ' => wp (g ρ) (fun r' ρ' => nrm r = nrm r' ∧ RR μ' ρ'))
theorem SaR_frc {μ μ' : Mem} (h : FrC μ μ') : SaR μ μ' := by
  intro c i e
  refine h c i ?_
  unfold EssR at e
  omega
theorem SaC_frr {μ μ' : Mem} (h : FrR μ μ') : SaC μ μ' := by
  intro c i e
  refine h c i ?_
  unfold EssC at e
  omega
theorem op2_at {f g : Mem → Option (Int × Mem)} (h : Op2 f g) (hf : ∀ μ r μ', f μ = some (r, μ') → FrC μ μ') (hg : ∀ μ r μ', g μ = some (r, μ') → FrR μ μ') {μ : Mem} (hR : RR μ μ) :
    ∃ r μ1 r' μ2, f μ = some (r, μ1) ∧ g μ1 = some (r', μ2) ∧ nrm r = nrm r' ∧ RR μ2 μ2 := by
  obtain ⟨r, μ1, e1, _⟩ := h μ μ hR
  obtain ⟨ra, μa, ea, rb, ρb, eb, en, er⟩ := h μ μ1 (RR_co (SaC_rfl μ) (SaR_frc (hf _ _ _ e1)) hR)
  rw [e1] at ea
  injection ea with ea
  injection ea with x1 x2
  subst x1; subst x2
  exact ⟨r, μ1, rb, ρb, e1, eb, en, RR_co (SaC_frr (hg _ _ _ eb)) (SaR_rfl _) er⟩
