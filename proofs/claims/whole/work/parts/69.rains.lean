theorem JR_sa {μ μ' ρ ρ' : Mem} (s : SaC μ μ') (t : SaR ρ ρ') (h : JR μ 58 ρ) : JR μ' 58 ρ' ∧ μ' 58 0 = μ 58 0 := by
  have e : μ' 58 0 = μ 58 0 := s 58 0 (by unfold EssC; omega)
  refine ⟨?_, e⟩
  obtain ⟨h1, h2, h3⟩ := h
  unfold JR
  rw [e, rowA_co t]
  exact ⟨h1, LR_sa h1 s h2, CR_sa (.inl rfl) s h3⟩
/-- How deep a lane's rut would become by a rain. -/
def WV (A : Int → Int) (l r : Int) : Int := wornM A l (A (56 + l)) r
theorem WV_in {μ ρ : Mem} {l r : Int} (h : JR μ 58 ρ) (l0 : 0 ≤ l) (l1 : l < ρ 112 2) : 0 ≤ WV (rowA ρ 0) l r ∧ WV (rowA ρ 0) l r ≤ 6 := by
  obtain ⟨_, _, _, _, _, _, _, _, _, _, hd⟩ := now_is h
  obtain ⟨_, d2, d3⟩ := hd l l0 l1
  unfold WV
  rw [rowA_0]
  exact wornM_in d2 d3
theorem depthOf_eq {μ ρ : Mem} {l C : Int} (h : JR μ C ρ) (l0 : 0 ≤ l) (l1 : l < ρ 112 2) : f_X0_depthOf C l μ = some (ρ 112 (56 + l), μ) := by
  obtain ⟨hL, hR, hK, ⟨L0, L9⟩, _, _, hl, _, _, _, hd⟩ := now_is h
  obtain ⟨d1, d2, d3⟩ := hd l l0 l1
  unfold f_X0_depthOf
  rw [gd_pos (isL_k hL), bn_eq (hasLane_eq hl L0 L9 (nrm_id (by omega) (by omega))), if_pos (⟨l0, l1⟩ : 0 ≤ l ∧ l < ρ 112 2), if_neg (by decide : ¬ nrm 1 = 0), nrm_id (z := l) (by omega) (by omega), gd_pos (by omega), d1]
theorem wornByRain_eq {μ ρ : Mem} {l r : Int} (h : JR μ 58 ρ) (l0 : 0 ≤ l) (l1 : l < ρ 112 2) (r0 : 0 ≤ r) (r9 : r ≤ 9) : ∃ μ', f_X11_wornByRain 0 l r μ = some (WV (rowA ρ 0) l r, μ') ∧ SaC μ μ' := by
  obtain ⟨hL, hR, hK, ⟨L0, L9⟩, _, _, hl, _, _, _, hd⟩ := now_is h
  obtain ⟨d1, d2, d3⟩ := hd l l0 l1
  obtain ⟨μ2, p1, p2⟩ := wornFrom_c hL hR l0 (by rw [rowA_0]; exact l1) d2 d3 r0 r9
  refine ⟨μ2, ?_, ScL_sa hL p2⟩
  unfold f_X11_wornByRain WV
  rw [show (0 + 58 : Int) = 58 from rfl, bn_eq (depthOf_eq h l0 l1), gd_pos (isL_k hL), bn_eq p1, rowA_0]
theorem wornTo_eq {μ ρ : Mem} {l r : Int} (h : JR μ 58 ρ) (l0 : 0 ≤ l) (l1 : l < ρ 112 2) (r0 : 0 ≤ r) (r9 : r ≤ 9) : ∃ ρ', f_X12_wornTo 111 l (ρ 112 (56 + l)) r ρ = some (WV (rowA ρ 0) l r, ρ') ∧ ScW ρ ρ' := by
  obtain ⟨hL, hR, hK, ⟨L0, L9⟩, _, _, hl, _, _, ⟨b1, b2, b3⟩, hd⟩ := now_is h
  obtain ⟨d1, d2, d3⟩ := hd l l0 l1
  obtain ⟨ρ2, p1, p2⟩ := wornTo_m hR l0 l1 d2 d3 r0 r9 b2 b3
  refine ⟨ρ2, ?_, p2⟩
  unfold WV
  rw [rowA_0]
  exact p1
def goodV (L v : Int) : Prop := 0 ≤ v ∧ v / 10 < L ∧ v % 10 ≤ 6
theorem ww_w {a S : Int} {V : Int → Int} {μ ρ : Mem} (a0 : 0 ≤ a) (a4 : a < 4) (S8 : S ≤ 8) (hV : ∀ i, 0 ≤ i → i < S → nrl (V i) = V i) (j : JR μ 58 ρ) (m1 : μ (90 + 2 * a) 1 = S) (m2 : ∀ i, 0 ≤ i → i < S → μ (91 + 2 * a) i = V i) (r1 : ρ 127 a = S) (r2 : ∀ i, 0 ≤ i → i < S → ρ 128 (40 * a + i) = V i) :
    ∀ (r n m : Nat) (i : Int), 0 ≤ i → i + r = S → r < n → r < m → ∃ w, f_X11_whyNotWorn_w39 n 0 (90 + 2 * a) i μ = some (w, μ) ∧ f_X12_noWorn_w34 m 111 a i ρ = some (w, ρ) ∧ (w = 0 ∨ w = -3) ∧ (w = 0 → ∀ k, i ≤ k → k < S → goodV (ρ 112 2) (V k)) := by
  obtain ⟨hL, hR, hK, ⟨L0, L9⟩, _, _, hl, _, _, _, hd⟩ := now_is j
  have kT := (tray_k a0 a4).1
  intro r
  induction r with
  | zero =>
    intro n m i i0 iS hn hm
    obtain ⟨n, rfl⟩ : ∃ q, n = q + 1 := ⟨n - 1, by omega⟩
    obtain ⟨m, rfl⟩ : ∃ q, m = q + 1 := ⟨m - 1, by omega⟩
    refine ⟨0, ?_, ?_, .inl rfl, fun _ k k1 k2 => absurd k2 (by omega)⟩
    · rw [f_X11_whyNotWorn_w39, gd_pos kT, m1, nrm_id (z := S) (by omega) (by omega), nrm_id (z := i) (by omega) (by omega), if_pos (by omega)]
    · rw [f_X12_noWorn_w34, nrm_id (z := a) (by omega) (by omega), gd_pos ⟨a0, a4⟩, show (111 + 16 : Int) = 127 from rfl, r1, nrm_id (z := S) (by omega) (by omega), nrm_id (z := i) (by omega) (by omega), if_pos (by omega)]
  | succ r ih =>
    intro n m i i0 iS hn hm
    obtain ⟨n, rfl⟩ : ∃ q, n = q + 1 := ⟨n - 1, by omega⟩
    obtain ⟨m, rfl⟩ : ∃ q, m = q + 1 := ⟨m - 1, by omega⟩
    have hv := hV i i0 (by omega)
    have hvm := m2 i i0 (by omega)
    have hvr := r2 i i0 (by omega)
    generalize V i = v at hv hvm hvr
    have vlo : -9223372036854775808 ≤ v := by rw [← hv]; exact Int64.le_toInt _
    have vhi : v < 9223372036854775808 := by rw [← hv]; exact Int64.toInt_lt _
    have k1 : nrm (kcmp v 0) < 0 ↔ v < 0 := by rw [kcmp_neg, hv]; rfl
    have hvV : V i = v := by rw [← hvm]; exact (m2 i i0 (by omega)).symm
    have hu : f_X11_whyNotWorn_w39 (n + 1) 0 (90 + 2 * a) i μ = if nrm (kcmp v 0) < 0 then some (-3, μ) else if 0 ≤ nrm (kcmp (kdiv v 10) (nrm (ρ 112 2))) then some (-3, μ) else if nrm (kcmp (krem v 10) 6) ≤ 0 then f_X11_whyNotWorn_w39 n 0 (90 + 2 * a) (i + 1) μ else some (-3, μ) := by
      rw [f_X11_whyNotWorn_w39, gd_pos kT, m1, nrm_id (z := S) (by omega) (by omega), nrm_id (z := i) (by omega) (by omega), if_neg (by omega), bn_eq (numberAt_eq m1 i0 (by omega) (by omega)), show 90 + 2 * a + 1 = 91 + 2 * a by omega, hvm, show (0 + 58 : Int) = 58 from rfl, gd_pos (isL_k hL), hl]
    have hw : f_X12_noWorn_w34 (m + 1) 111 a i ρ = if nrm (kcmp v 0) < 0 then some (-3, ρ) else bn (f_X12_isLane 111 (kdiv v 10) ρ) fun r8 μ7 => if nrm r8 = 0 then some (-3, μ7) else if nrm (kcmp (krem v 10) 6) ≤ 0 then f_X12_noWorn_w34 m 111 a (i + 1) μ7 else some (-3, μ7) := by
      rw [f_X12_noWorn_w34, nrm_id (z := a) (by omega) (by omega), gd_pos ⟨a0, a4⟩, show (111 + 16 : Int) = 127 from rfl, show (111 + 17 : Int) = 128 from rfl, r1, nrm_id (z := S) (by omega) (by omega), nrm_id (z := i) (by omega) (by omega), if_neg (by omega), nrm_id (z := 40 * a + i) (by omega) (by omega), gd_pos (by omega), nm_eq, hvr]
    by_cases v0 : v < 0
    · rw [if_pos (k1.mpr v0)] at hu hw
      exact ⟨-3, hu, hw, .inr rfl, fun e => absurd e (by decide)⟩
    · have d1 : kdiv v 10 = v / 10 := kdiv_nn (by omega) vhi (by decide) (by decide)
      have d2 : krem v 10 = v % 10 := krem_nn (by omega) vhi (by decide) (by decide)
      have d3 : nrl (v / 10) = v / 10 := nrl_id (by omega) (by omega)
      have d4 : nrl (v % 10) = v % 10 := nrl_id (by omega) (by omega)
      have k2 : 0 ≤ nrm (kcmp (v / 10) (nrm (ρ 112 2))) ↔ ¬ (v / 10 < ρ 112 2) := by
        have := kcmp_neg (a := v / 10) (b := nrm (ρ 112 2))
        rw [d3, nrl_nrm, nrm_id (z := ρ 112 2) (by omega) (by omega)] at this
        rw [nrm_id (z := ρ 112 2) (by omega) (by omega)]
        omega
      have k3 : nrm (kcmp (v % 10) 6) ≤ 0 ↔ v % 10 ≤ 6 := by
        have := kcmp_pos (a := v % 10) (b := 6)
        rw [d4, show nrl 6 = 6 from rfl] at this
        omega
      rw [if_neg (fun q => v0 (k1.mp q)), d1, d2] at hu hw
      rw [bn_eq (isLane_eq L0 L9), d3] at hw
      by_cases g : v / 10 < ρ 112 2
      · rw [if_neg (fun q => absurd g (k2.mp q))] at hu
        rw [if_pos (by omega : 0 ≤ v / 10 ∧ v / 10 < ρ 112 2), if_neg (by decide : ¬ nrm 1 = 0)] at hw
        by_cases q : v % 10 ≤ 6
        · rw [if_pos (k3.mpr q)] at hu hw
          obtain ⟨w, x1, x2, x3, x4⟩ := ih n m (i + 1) (by omega) (by omega) (by omega) (by omega)
          refine ⟨w, by rw [hu]; exact x1, by rw [hw]; exact x2, x3, ?_⟩
          intro e k ik kS
          by_cases ek : k = i
          · subst ek
            rw [hvV]
            exact ⟨by omega, g, q⟩
          · exact x4 e k (by omega) kS
        · rw [if_neg (fun p => q (k3.mp p))] at hu hw
          exact ⟨-3, hu, hw, .inr rfl, fun e => absurd e (by decide)⟩
      · rw [if_pos (k2.mpr g)] at hu
        rw [if_neg (by omega : ¬ (0 ≤ v / 10 ∧ v / 10 < ρ 112 2)), if_pos (by decide : nrm 0 = 0)] at hw
        exact ⟨-3, hu, hw, .inr rfl, fun e => absurd e (by decide)⟩
/-- Whether a tray is one of worn ruts. -/
theorem worn_ok {a : Int} {μ ρ : Mem} (ha : nrm a = a) (h : RR μ ρ) :
    ∃ w, f_X11_whyNotWorn 0 (if 0 ≤ a ∧ a < 4 then 90 + 2 * a else -1) μ = some (w, μ) ∧ f_X12_noWorn 111 a ρ = some (w, ρ) ∧ (w = 0 ∨ nrm w ≠ 0) ∧
      (w = 0 → (0 ≤ a ∧ a < 4) ∧ (1 ≤ ρ 127 a ∧ ρ 127 a ≤ 8) ∧ μ (90 + 2 * a) 1 = ρ 127 a ∧ (∀ i, 0 ≤ i → i < ρ 127 a → μ (91 + 2 * a) i = ρ 128 (40 * a + i)) ∧ (∀ i, 0 ≤ i → i < ρ 127 a → goodV (ρ 112 2) (ρ 128 (40 * a + i)))) := by
  unfold f_X11_whyNotWorn f_X12_noWorn
  rw [bn_eq (noTray_eq ha (trays_s h)), ha]
  by_cases g : 0 ≤ a ∧ a < 4
  · rw [if_pos g, if_pos g, if_neg (by omega : ¬ 90 + 2 * a < 0), gd_pos (tray_k g.1 g.2).1]
    rcases h.2.2.2.2.2 a g.1 g.2 with ⟨e1, e2⟩ | ⟨e1, e2, e3, e4, e5, e6, e7, e8⟩
    · rw [e1, if_neg (by decide : ¬ nrm 1 = 0), if_pos e2, if_neg (by decide : ¬ nrm (-6) = 0)]
      exact ⟨-6, rfl, rfl, .inr (by decide), fun e => absurd e (by decide)⟩
    · rw [e1, if_pos (by decide : nrm 0 = 0), if_neg (by omega : ¬ ρ 126 a = -1), if_pos (by decide : nrm 0 = 0), gd_pos g, e5, show (111 + 16 : Int) = 127 from rfl, nrm_id (z := ρ 127 a) (by omega) (by omega), bn_eq (within_l ρ (nrl_id (by omega) (by omega)) (rfl : nrl 1 = 1) (rfl : nrl 8 = 8)), show nrm 1 = 1 from rfl, show nrm 8 = 8 from rfl]
      by_cases q : 1 ≤ ρ 127 a ∧ ρ 127 a ≤ 8
      · rw [if_neg (by omega : ¬ ρ 127 a < 1), if_pos q.2, if_pos q, if_neg (by decide : ¬ nrm 1 = 0)]
        obtain ⟨w, x1, x2, x3, x4⟩ := ww_w (V := fun i => ρ 128 (40 * a + i)) g.1 g.2 q.2 (fun i i0 i1 => (e8 i i0 i1).2) (ρ := ρ) h.2.2.1 e5 (fun i i0 i1 => (e8 i i0 i1).1) rfl (fun _ _ _ => rfl) (ρ 127 a).toNat FU FU 0 (by decide) (by omega) (by unfold FU; omega) (by unfold FU; omega)
        refine ⟨w, x1, x2, ?_, fun e => ⟨g, q, rfl, fun i i0 i1 => (e8 i i0 i1).1, fun i i0 i1 => x4 e i i0 i1⟩⟩
        rcases x3 with e | e
        · exact .inl e
        · rw [e]; exact .inr (by decide)
      · rw [if_neg q, if_pos (by decide : nrm 0 = 0)]
        refine ⟨-4, ?_, rfl, .inr (by decide), fun e => absurd e (by decide)⟩
        by_cases q1 : ρ 127 a < 1
        · rw [if_pos q1]
        · rw [if_neg q1, if_neg (by omega)]
  · rw [if_neg g, if_neg g, if_pos (by decide : (-1 : Int) < 0), if_neg (by decide : ¬ nrm (-2) = 0)]
    exact ⟨-2, rfl, rfl, .inr (by decide), fun e => absurd e (by decide)⟩
/-- Whether all told depths from the i-th on fit a rain. -/
def allFit (A V : Int → Int) (r : Int) : Nat → Int → Bool
  | 0, _ => true
  | d + 1, i => decide (WV A (V i / 10) r = V i % 10) && allFit A V r d (i + 1)
theorem fit_c {a S r set : Int} {V : Int → Int} {ρ : Mem} {K : Int → Int → Int → Int → Mem → Option (Int × Mem)} (a0 : 0 ≤ a) (a4 : a < 4) (S8 : S ≤ 8) (hV : ∀ i, 0 ≤ i → i < S → goodV (ρ 112 2) (V i)) (r0 : 0 ≤ r) (r9 : r ≤ 9) :
    ∀ (d n : Nat) (i : Int) (μ : Mem), 0 ≤ i → i + d = S → d < n → JR μ 58 ρ → μ (90 + 2 * a) 1 = S → (∀ i, 0 ≤ i → i < S → μ (91 + 2 * a) i = V i) →
    ∃ μ', f_X11_rainsBy_w16 K n 0 (90 + 2 * a) set r 1 i μ = f_X11_rainsBy_j74 K 0 (90 + 2 * a) set r (if allFit (rowA ρ 0) V r d i then 1 else 0) μ' ∧ SaC μ μ' := by
  have kT := (tray_k a0 a4).1
  intro d
  induction d with
  | zero =>
    intro n i μ i0 iS hn j m1 m2
    obtain ⟨n, rfl⟩ : ∃ q, n = q + 1 := ⟨n - 1, by omega⟩
    refine ⟨μ, ?_, SaC_rfl μ⟩
    rw [f_X11_rainsBy_w16, gd_pos kT, m1, nrm_id (z := S) (by omega) (by omega), nrm_id (z := i) (by omega) (by omega), if_pos (by omega)]
    rfl
  | succ d ih =>
    intro n i μ i0 iS hn j m1 m2
    obtain ⟨n, rfl⟩ : ∃ q, n = q + 1 := ⟨n - 1, by omega⟩
    obtain ⟨_, _, _, ⟨L0, L9⟩, _⟩ := now_is j
    obtain ⟨v0, v1, v2⟩ := hV i i0 (by omega)
    obtain ⟨μ2, p1, p2⟩ := wornByRain_eq j (l := V i / 10) (r := r) (by omega) v1 r0 r9
    obtain ⟨j2, _⟩ := JR_sa p2 (SaR_rfl ρ) j
    have m12 : μ2 (90 + 2 * a) 1 = S := by rw [p2 _ _ (by unfold EssC; omega)]; exact m1
    have m22 : ∀ i, 0 ≤ i → i < S → μ2 (91 + 2 * a) i = V i := fun k k0 k1 => by rw [p2 _ _ (by unfold EssC; omega)]; exact m2 k k0 k1
    have w := WV_in (r := r) j (l := V i / 10) (by omega) v1
    have hc : nrm (kcmp (nrm (WV (rowA ρ 0) (V i / 10) r)) (V i % 10)) = 0 ↔ WV (rowA ρ 0) (V i / 10) r = V i % 10 := by
      rw [kcmp_zero, nrl_nrm, nrm_id (z := WV (rowA ρ 0) (V i / 10) r) (by omega) (by omega), nrl_id (z := V i % 10) (by omega) (by omega)]
    have hu : f_X11_rainsBy_w16 K (n + 1) 0 (90 + 2 * a) set r 1 i μ = if nrm (kcmp (nrm (WV (rowA ρ 0) (V i / 10) r)) (V i % 10)) = 0 then f_X11_rainsBy_w16 K n 0 (90 + 2 * a) set r 1 (i + 1) μ2 else f_X11_rainsBy_w16 K n 0 (90 + 2 * a) set r 0 (i + 1) μ2 := by
      rw [f_X11_rainsBy_w16, gd_pos kT, m1, nrm_id (z := S) (by omega) (by omega), nrm_id (z := i) (by omega) (by omega), if_neg (by omega), if_neg (by decide : ¬ nrm 1 = 0), bn_eq (numberAt_eq m1 i0 (by omega) (by omega)), show 90 + 2 * a + 1 = 91 + 2 * a by omega, m2 i i0 (by omega), kdiv_nn v0 (by omega) (by decide) (by decide), krem_nn v0 (by omega) (by decide) (by decide), bn_eq p1]
      rfl
    unfold allFit
    by_cases e : WV (rowA ρ 0) (V i / 10) r = V i % 10
    · rw [if_pos (hc.mpr e)] at hu
      rw [decide_eq_true e, Bool.true_and]
      obtain ⟨μ3, q1, q2⟩ := ih n (i + 1) μ2 (by omega) (by omega) (by omega) j2 m12 m22
      exact ⟨μ3, by rw [hu]; exact q1, SaC_tr p2 q2⟩
    · rw [if_neg (fun q => e (hc.mp q))] at hu
      obtain ⟨n, rfl⟩ : ∃ q, n = q + 1 := ⟨n - 1, by omega⟩
      refine ⟨μ2, ?_, p2⟩
      rw [hu, decide_eq_false e, Bool.false_and, f_X11_rainsBy_w16, gd_pos kT, m12, if_pos (by decide : nrm 0 = 0)]
      split <;> rfl
theorem fit_m {a S r set : Int} {V : Int → Int} {μ : Mem} {A : Int → Int} {K : Int → Int → Int → Int → Mem → Option (Int × Mem)} (a0 : 0 ≤ a) (a4 : a < 4) (S8 : S ≤ 8) (hV : ∀ i, 0 ≤ i → i < S → goodV (A 2) (V i)) (r0 : 0 ≤ r) (r9 : r ≤ 9) :
    ∀ (d n : Nat) (i : Int) (b : Bool) (ρ : Mem), rowA ρ 0 = A → 0 ≤ i → i + d = S → d < n → JR μ 58 ρ → ρ 127 a = S → (∀ i, 0 ≤ i → i < S → ρ 128 (40 * a + i) = V i) →
    ∃ ρ', f_X12_rainsOf_w16 K n 111 a set r (if b then 1 else 0) i ρ = f_X12_rainsOf_j102 K 111 a r set (if b && allFit A V r d i then jshl 1 r else 0) ρ' ∧ ScW ρ ρ' := by
  intro d
  induction d with
  | zero =>
    intro n i b ρ hA i0 iS hn j m1 m2
    obtain ⟨n, rfl⟩ : ∃ q, n = q + 1 := ⟨n - 1, by omega⟩
    refine ⟨ρ, ?_, ScW_rf⟩
    rw [f_X12_rainsOf_w16, nrm_id (z := a) (by omega) (by omega), gd_pos ⟨a0, a4⟩, show (111 + 16 : Int) = 127 from rfl, m1, nrm_id (z := S) (by omega) (by omega), nrm_id (z := i) (by omega) (by omega), if_pos (by omega)]
    cases b <;> rfl
  | succ d ih =>
    intro n i b ρ hA i0 iS hn j m1 m2
    obtain ⟨n, rfl⟩ : ∃ q, n = q + 1 := ⟨n - 1, by omega⟩
    obtain ⟨_, _, _, ⟨L0, L9⟩, _⟩ := now_is j
    have e2 : A 2 = ρ 112 2 := by rw [← hA, rowA_0]
    obtain ⟨v0, v1, v2⟩ := hV i i0 (by omega)
    rw [e2] at v1
    obtain ⟨ρ2, p1, p2⟩ := wornTo_eq j (l := V i / 10) (r := r) (by omega) v1 r0 r9
    rw [hA] at p1
    have w := WV_in (r := r) j (l := V i / 10) (by omega) v1
    rw [hA] at w
    have hA2 : rowA ρ2 0 = A := by rw [rowA_co (ScW_sa p2)]; exact hA
    obtain ⟨ρ3, q1, q2⟩ := ih n (i + 1) (b && decide (WV A (V i / 10) r = V i % 10)) ρ2 hA2 (by omega) (by omega) (by omega) (JR_sa (SaC_rfl μ) (ScW_sa p2) j).1 (by rw [p2 127 a (by decide) (by decide)]; exact m1) (fun k k0 k1 => by rw [p2 128 _ (by decide) (by decide)]; exact m2 k k0 k1)
    refine ⟨ρ3, ?_, ScW_tr p2 q2⟩
    unfold allFit
    rw [← Bool.and_assoc, ← q1, f_X12_rainsOf_w16, nrm_id (z := a) (by omega) (by omega), gd_pos ⟨a0, a4⟩, show (111 + 16 : Int) = 127 from rfl, show (111 + 17 : Int) = 128 from rfl, m1, nrm_id (z := S) (by omega) (by omega), nrm_id (z := i) (by omega) (by omega), if_neg (by omega), nrm_id (z := 40 * a + i) (by omega) (by omega), gd_pos (by omega), nm_eq, m2 i i0 (by omega), jdiv_nn v0 (by omega) (by decide) (by decide), jrem_nn v0 (by omega) (by decide) (by decide), nrm_id (z := 56 + V i / 10) (by omega) (by omega), gd_pos (by omega), show (111 + 1 : Int) = 112 from rfl, bn_eq p1, nrm_id (z := WV A (V i / 10) r) (by omega) (by omega), nrm_id (z := V i % 10) (by omega) (by omega)]
    by_cases e : WV A (V i / 10) r = V i % 10
    · rw [if_pos e, decide_eq_true e]
      cases b <;> rfl
    · rw [if_neg e, decide_eq_false e]
      cases b <;> rfl
/-- The rains that fit, from the rain r on. -/
def rset (A V : Int → Int) (S : Nat) : Nat → Int → Int → Int
  | 0, _, s => s
  | d + 1, r, s => rset A V S d (r + 1) (if allFit A V r S 0 then jor s (jshl 1 r) else s)
theorem rset_in {A V : Int → Int} {S : Nat} : ∀ (d : Nat) (r s : Int), 0 ≤ r → r + d = 10 → 0 ≤ s → s < 2 ^ 10 → 0 ≤ rset A V S d r s ∧ rset A V S d r s < 2 ^ 10
  | 0, _, s, _, _, h1, h2 => ⟨h1, h2⟩
  | d + 1, r, s, r0, rd, h1, h2 => by
    unfold rset
    by_cases e : allFit A V r S 0 = true
    · rw [if_pos e]
      obtain ⟨j1, _, j3⟩ := jor_tb (x := s) (k := r) h1 (by omega) r0 (by omega)
      exact rset_in d (r + 1) _ (by omega) (by omega) j1 (j3 10 h2 (by omega))
    · rw [if_neg e]
      exact rset_in d (r + 1) s (by omega) (by omega) h1 h2
theorem rains_c {a S : Int} {V : Int → Int} {ρ : Mem} (a0 : 0 ≤ a) (a4 : a < 4) (S0 : 0 ≤ S) (S8 : S ≤ 8) (hV : ∀ i, 0 ≤ i → i < S → goodV (ρ 112 2) (V i)) :
    ∀ (d n : Nat) (r s : Int) (μ : Mem), 0 ≤ r → r + d = 10 → d < n → JR μ 58 ρ → μ (90 + 2 * a) 1 = S → (∀ i, 0 ≤ i → i < S → μ (91 + 2 * a) i = V i) →
    ∃ μ', f_X11_rainsBy_w4 n 0 (90 + 2 * a) s r μ = some (rset (rowA ρ 0) V S.toNat d r s, μ') ∧ SaC μ μ' := by
  intro d
  induction d with
  | zero =>
    intro n r s μ r0 rd hn j m1 m2
    obtain ⟨n, rfl⟩ : ∃ q, n = q + 1 := ⟨n - 1, by omega⟩
    refine ⟨μ, ?_, SaC_rfl μ⟩
    rw [f_X11_rainsBy_w4, nrm_id (z := r) (by omega) (by omega), if_pos (by show (9 : Int) < r; omega)]
    rfl
  | succ d ih =>
    intro n r s μ r0 rd hn j m1 m2
    obtain ⟨n, rfl⟩ : ∃ q, n = q + 1 := ⟨n - 1, by omega⟩
    obtain ⟨μ2, p1, p2⟩ := fit_c (K := f_X11_rainsBy_w4 n) (set := s) a0 a4 S8 hV r0 (by omega) S.toNat FU 0 μ (by decide) (by omega) (by unfold FU; omega) j m1 m2
    obtain ⟨j2, _⟩ := JR_sa p2 (SaR_rfl ρ) j
    obtain ⟨μ3, q1, q2⟩ := ih n (r + 1) (if allFit (rowA ρ 0) V r S.toNat 0 then jor s (jshl 1 r) else s) μ2 (by omega) (by omega) (by omega) j2 (by rw [p2 _ _ (by unfold EssC; omega)]; exact m1) (fun k k0 k1 => by rw [p2 _ _ (by unfold EssC; omega)]; exact m2 k k0 k1)
    refine ⟨μ3, ?_, SaC_tr p2 q2⟩
    unfold rset
    rw [f_X11_rainsBy_w4, nrm_id (z := r) (by omega) (by omega), if_neg (by show ¬ ((9 : Int) < r); omega), p1, ← q1]
    cases allFit (rowA ρ 0) V r S.toNat 0 <;> rfl
theorem rains_m {a S : Int} {V : Int → Int} {μ : Mem} {A : Int → Int} (a0 : 0 ≤ a) (a4 : a < 4) (S0 : 0 ≤ S) (S8 : S ≤ 8) (hV : ∀ i, 0 ≤ i → i < S → goodV (A 2) (V i)) :
    ∀ (d n : Nat) (r s : Int) (ρ : Mem), rowA ρ 0 = A → 0 ≤ r → r + d = 10 → d < n → 0 ≤ s → s < 2 ^ 10 → JR μ 58 ρ → ρ 127 a = S → (∀ i, 0 ≤ i → i < S → ρ 128 (40 * a + i) = V i) →
    ∃ ρ', f_X12_rainsOf_w4 n 111 a s r ρ = some (rset A V S.toNat d r s, ρ') ∧ ScW ρ ρ' := by
  intro d
  induction d with
  | zero =>
    intro n r s ρ hA r0 rd hn s0 s1 j m1 m2
    obtain ⟨n, rfl⟩ : ∃ q, n = q + 1 := ⟨n - 1, by omega⟩
    refine ⟨ρ, ?_, ScW_rf⟩
    rw [f_X12_rainsOf_w4, nrm_id (z := r) (by omega) (by omega), if_pos (by show (10 : Int) ≤ r; omega)]
    rfl
  | succ d ih =>
    intro n r s ρ hA r0 rd hn s0 s1 j m1 m2
    obtain ⟨n, rfl⟩ : ∃ q, n = q + 1 := ⟨n - 1, by omega⟩
    obtain ⟨ρ2, p1, p2⟩ := fit_m (K := f_X12_rainsOf_w4 n) (set := s) (A := A) a0 a4 S8 hV r0 (by omega) S.toNat FU 0 true ρ hA (by decide) (by omega) (by unfold FU; omega) j m1 m2
    have hA2 : rowA ρ2 0 = A := by rw [rowA_co (ScW_sa p2)]; exact hA
    obtain ⟨j1, _, j3⟩ := jor_tb (x := s) (k := r) s0 (by omega) r0 (by omega)
    have sb : 0 ≤ (if allFit A V r S.toNat 0 then jor s (jshl 1 r) else s) ∧ (if allFit A V r S.toNat 0 then jor s (jshl 1 r) else s) < 2 ^ 10 := by
      cases allFit A V r S.toNat 0
      · exact ⟨s0, s1⟩
      · exact ⟨j1, j3 10 s1 (by omega)⟩
    obtain ⟨ρ3, q1, q2⟩ := ih n (r + 1) (if allFit A V r S.toNat 0 then jor s (jshl 1 r) else s) ρ2 hA2 (by omega) (by omega) (by omega) sb.1 sb.2 (JR_sa (SaC_rfl μ) (ScW_sa p2) j).1 (by rw [p2 127 a (by decide) (by decide)]; exact m1) (fun k k0 k1 => by rw [p2 128 _ (by decide) (by decide)]; exact m2 k k0 k1)
    refine ⟨ρ3, ?_, ScW_tr p2 q2⟩
    unfold rset
    rw [f_X12_rainsOf_w4, nrm_id (z := r) (by omega) (by omega), if_neg (by show ¬ ((10 : Int) ≤ r); omega)]
    rw [show (if true = true then (1 : Int) else 0) = 1 from rfl] at p1
    rw [p1, ← q1]
    unfold f_X12_rainsOf_j102
    rw [nm_eq]
    cases allFit A V r S.toNat 0
    · show f_X12_rainsOf_w4 n 111 a (jor s 0) (r + 1) ρ2 = _
      rw [jor_0 s0 (by omega)]
      rfl
    · rfl
/-- What both find of the rains. -/
theorem rains_eq {a : Int} {μ ρ : Mem} (h : RR μ ρ) (g : 0 ≤ a ∧ a < 4) (q : 1 ≤ ρ 127 a ∧ ρ 127 a ≤ 8) (m1 : μ (90 + 2 * a) 1 = ρ 127 a) (m2 : ∀ i, 0 ≤ i → i < ρ 127 a → μ (91 + 2 * a) i = ρ 128 (40 * a + i)) (hV : ∀ i, 0 ≤ i → i < ρ 127 a → goodV (ρ 112 2) (ρ 128 (40 * a + i))) :
    ∃ s μ' ρ', f_X11_rainsBy 0 (90 + 2 * a) μ = some (s, μ') ∧ f_X12_rainsOf 111 a ρ = some (s, ρ') ∧ SaC μ μ' ∧ SaR ρ ρ' ∧ 0 ≤ s ∧ s < 2 ^ 10 := by
  obtain ⟨μ2, p1, p2⟩ := rains_c (V := fun i => ρ 128 (40 * a + i)) g.1 g.2 (by omega) q.2 hV 10 FU 0 0 μ (by decide) (by decide) (by unfold FU; omega) h.2.2.1 m1 m2
  obtain ⟨ρ2, q1, q2⟩ := rains_m (V := fun i => ρ 128 (40 * a + i)) (μ := μ) (A := rowA ρ 0) g.1 g.2 (by omega) q.2 (by rw [rowA_0]; exact hV) 10 FU 0 0 ρ rfl (by decide) (by decide) (by unfold FU; omega) (by decide) (by decide) h.2.2.1 rfl (fun _ _ _ => rfl)
  obtain ⟨s1, s2⟩ := rset_in (A := rowA ρ 0) (V := fun i => ρ 128 (40 * a + i)) (S := (ρ 127 a).toNat) 10 0 0 (by decide) (by decide) (by decide) (by decide)
  exact ⟨_, μ2, ρ2, p1, q1, p2, ScW_sa q2, s1, s2⟩
theorem op_rains (a : Int) (ha : nrm a = a) : Op2 (f_X11_rains 0 a) (f_X12_rains 111 a) := by
  intro μ ρ h
  have h' := RR_co (SaC_rfl μ) (SaR_thrown ρ 0) h
  generalize hρ : ms ρ 111 0 0 = ρ1 at h'
  obtain ⟨w, w1, w2, w3, w4⟩ := worn_ok ha h'
  unfold f_X11_rains f_X12_rains
  rw [nm_eq, hρ, bn_eq (trayOf_eq μ ha), bn_eq w1, bn_eq w2]
  by_cases z : nrm w = 0
  · have w0 : w = 0 := by
      rcases w3 with e | e
      · exact e
      · exact absurd z e
    obtain ⟨g, q, m1, m2, hV⟩ := w4 w0
    obtain ⟨s, μ2, ρ2, p1, p2, p3, p4, _⟩ := rains_eq h' g q m1 m2 hV
    rw [if_pos z, if_pos z, if_pos g, bn_eq p1, bn_eq p2]
    simp only [wp_some]
    exact ⟨trivial, RR_co p3 p4 h'⟩
  · rw [if_neg z, if_neg z]
    simp only [wp_some]
    exact ⟨trivial, h'⟩
