theorem ms_id {μ : Mem} {c i v : Int} (h : μ c i = v) : ms μ c i v = μ := by
  funext c' i'
  rw [ms_at]
  split
  · next e => rw [e.1, e.2, h]
  · rfl
theorem ms_ms (μ : Mem) (c i v w : Int) : ms (ms μ c i v) c i w = ms μ c i w := by
  funext c' i'
  unfold ms
  by_cases e : c' = c ∧ i' = i
  · rw [if_pos e, if_pos e]
  · rw [if_neg e, if_neg e, if_neg e]
theorem JR_r {μ ρ ρ' : Mem} {C : Int} (e : ∀ i, ρ' 112 i = ρ 112 i) (h : JR μ C ρ) : JR μ C ρ' := by
  have : rowA ρ' 0 = rowA ρ 0 := by
    funext i
    rw [rowA_0, rowA_0, e]
  unfold JR
  rw [this]
  exact h
theorem deed_not2 {μ ρ μ2 ρ2 : Mem} (h : RR μ ρ) (s : ScD 58 (μ 58 0) (tko μ 60 58) μ2) (t : ∀ c i, c ≠ 116 → c ≠ 117 → c ≠ 118 → ¬ (c = 112 ∧ 55 ≤ i ∧ i < 68) → ¬ (c = 111 ∧ 19 ≤ i) → ρ2 c i = ρ c i) (j : JR μ2 58 ρ2) : RR μ2 ρ2 := by
  have hL := h.2.2.1.1
  have hL' := hL
  unfold isL at hL'
  have h9 := LR_2 h.2.2.1.2.1
  rw [rowA_0] at h9
  have em : ∀ c i, ¬ (c = μ 58 0 + 7 ∧ i = 6) → c ≠ μ 58 0 + 11 → c ≠ μ 58 0 + 12 → ¬ (58 ≤ c ∧ c ≤ 61) → μ2 c i = μ c i := by
    intro c i e1 e2 e3 e4
    rw [s.1 c i e1 e2 e3 (by omega) (by omega), tko_nc (by omega) (by omega)]
  have e58 : μ2 58 0 = μ 58 0 := by rw [s.2, tko_nc (by decide) (by decide)]
  have hH : HistR μ2 ρ2 := HistR_c e58 (fun c i c1 c2 => em c i (by omega) (by omega) (by omega) (by omega)) (fun i hi => t 112 i (by decide) (by decide) (by decide) (by omega) (by omega)) h9 h.2.2.2.1
  refine RR_deed h hL ?_ ?_ j hH
  · intro c i e1 e2 e3 e4
    exact em c i e1 e2 e3 (by omega)
  · intro c i e1 e2
    unfold EssR at e1
    exact t c i (by omega) (by omega) (by omega) (by omega) (by omega)
/-- A step of told deeds, by both. -/
theorem tell_step {a S La C k : Int} {V : Int → Int} {μ ρ : Mem} {m : Nat} (hC : C = 58 ∨ C = 60) (kc : isK C 0) (a0 : 0 ≤ a) (a4 : a < 4) (S40 : S ≤ 40) (hV : ∀ i, 0 ≤ i → i < S → nrl (V i) = V i) (k0 : 0 ≤ k) (kS : k < S) (j : JR μ C ρ) (hLa : μ C 0 = La) (r1 : ρ 127 a = S) (r2 : ∀ i, 0 ≤ i → i < S → ρ 128 (40 * a + i) = V i) (r3 : ρ 111 19 = 0) :
    ∃ w μ' ρ', f_X0_tryDeed C (V k) μ = some (w, μ') ∧ (0 ≤ w ∧ w ≤ 3) ∧ ScD C La μ μ' ∧ DcR ρ ρ' ∧ JR μ' C ρ' ∧ ρ' 111 19 = w ∧
      (w = 0 → f_X12_tells_w7 (m + 1) 111 a k ρ = f_X12_tells_w7 m 111 a (k + 1) ρ') ∧ (w ≠ 0 → f_X12_tells_w7 (m + 1) 111 a k ρ = some (k, ρ')) := by
  obtain ⟨w, μ', ρ1, p1, p2, p3, p4, p5, p6⟩ := deed_eq hC kc j (hV k k0 kS)
  rw [hLa] at p4
  have e19 : ρ1 111 19 = 0 := by rw [p3 111 19 (by decide) (by decide)]; exact r3
  have e128 : ρ1 128 (40 * a + k) = V k := by rw [p3 128 _ (by decide) (by decide)]; exact r2 k k0 kS
  have hu : f_X12_tells_w7 (m + 1) 111 a k ρ = if nrm w = 0 then (bn (f_X12_does 111 (V k) (ms ρ1 111 19 w)) fun _ μ12 => f_X12_tells_w7 m 111 a (k + 1) μ12) else some (k, ms ρ1 111 19 w) := by
    rw [f_X12_tells_w7, nrm_id (z := a) (by omega) (by omega), gd_pos ⟨a0, a4⟩, show (111 + 16 : Int) = 127 from rfl, show (111 + 17 : Int) = 128 from rfl, r1, nrm_id (z := S) (by omega) (by omega), nrm_id (z := k) (by omega) (by omega), if_neg (by omega), nrm_id (z := 40 * a + k) (by omega) (by omega), gd_pos (by omega), r2 k k0 kS, bn_eq p2, nm_eq, ms_eq, gd_pos (by omega), ms_nc (by decide), e128]
  rcases p6 with ⟨wn, j2⟩ | ⟨w0, v0, v5, ρ2, d1, d2, d3⟩
  · refine ⟨w, μ', ms ρ1 111 19 w, p1, p5, p4, ?_, JR_r (fun i => ms_nc (by decide)) j2, ms_eq _ _ _ _, fun e => absurd e wn, fun _ => ?_⟩
    · intro c i e1 e2 e3 e4
      rw [ms_at, if_neg (by omega), p3 c i e1 e2]
    · rw [hu, if_neg (by rw [nrm_id (z := w) (by omega) (by omega)]; exact wn)]
  · have e20 : ρ2 111 19 = w := by
      rw [w0, d2 111 19 (by decide) (by decide) (by omega)]
      exact e19
    refine ⟨w, μ', ρ2, p1, p5, p4, DcR_tr (DcR_of p3) (DcS_R d2), d3, e20, fun _ => ?_, fun e => absurd w0 e⟩
    rw [hu, w0, if_pos (by decide : nrm 0 = 0), ms_id e19, bn_eq d1]
theorem perf_w {a S La : Int} {V : Int → Int} (a0 : 0 ≤ a) (a4 : a < 4) (S40 : S ≤ 40) (hL : isL La) (hV : ∀ i, 0 ≤ i → i < S → nrl (V i) = V i) : ∀ (r n m : Nat) (k : Int) (μ ρ : Mem), 0 ≤ k → k + r = S → r < n → r < m → JR μ 58 ρ → μ 58 0 = La →
    μ (90 + 2 * a) 1 = S → (∀ i, 0 ≤ i → i < S → μ (91 + 2 * a) i = V i) → ρ 127 a = S → (∀ i, 0 ≤ i → i < S → ρ 128 (40 * a + i) = V i) → ρ 111 19 = 0 →
    ∃ d μ' ρ', f_X11_perform_w36 n 0 (90 + 2 * a) k μ = f_X11_perform_j65 0 d μ' ∧ f_X12_tells_w7 m 111 a k ρ = some (d, ρ') ∧ JR μ' 58 ρ' ∧ ScD 58 La μ μ' ∧ DcR ρ ρ' ∧ k ≤ d ∧ d ≤ S := by
  have hL' := hL
  unfold isL at hL'
  have kT := (tray_k a0 a4).1
  intro r
  induction r with
  | zero =>
    intro n m k μ ρ k0 kS hn hm j hLa m1 m2 r1 r2 r3
    obtain ⟨n, rfl⟩ : ∃ q, n = q + 1 := ⟨n - 1, by omega⟩
    obtain ⟨m, rfl⟩ : ∃ q, m = q + 1 := ⟨m - 1, by omega⟩
    refine ⟨k, μ, ρ, ?_, ?_, j, ScD_rf, DcR_rf, by omega, by omega⟩
    · rw [f_X11_perform_w36, gd_pos kT, m1, nrm_id (z := S) (by omega) (by omega), nrm_id (z := k) (by omega) (by omega), if_pos (by omega)]
    · rw [f_X12_tells_w7, nrm_id (z := a) (by omega) (by omega), gd_pos ⟨a0, a4⟩, show (111 + 16 : Int) = 127 from rfl, r1, nrm_id (z := S) (by omega) (by omega), nrm_id (z := k) (by omega) (by omega), if_pos (by omega), gd_pos ⟨a0, a4⟩, show S = k by omega]
  | succ r ih =>
    intro n m k μ ρ k0 kS hn hm j hLa m1 m2 r1 r2 r3
    obtain ⟨n, rfl⟩ : ∃ q, n = q + 1 := ⟨n - 1, by omega⟩
    obtain ⟨m, rfl⟩ : ∃ q, m = q + 1 := ⟨m - 1, by omega⟩
    obtain ⟨w, μ2, ρ2, p1, p2, p3, p4, p5, p6, p7, p8⟩ := tell_step (m := m) (.inl rfl) kk_58 a0 a4 S40 hV k0 (by omega) j hLa r1 r2 r3
    have hu : f_X11_perform_w36 (n + 1) 0 (90 + 2 * a) k μ = if nrm w = 0 then f_X11_perform_w36 n 0 (90 + 2 * a) (k + 1) μ2 else f_X11_perform_j65 0 k μ2 := by
      rw [f_X11_perform_w36, gd_pos kT, m1, nrm_id (z := S) (by omega) (by omega), nrm_id (z := k) (by omega) (by omega), if_neg (by omega), bn_eq (numberAt_eq m1 k0 (by omega) S40), show 90 + 2 * a + 1 = 91 + 2 * a by omega, m2 k k0 (by omega), show (0 + 58 : Int) = 58 from rfl, bn_eq p1]
    rw [nrm_id (z := w) (by omega) (by omega)] at hu
    by_cases z : w = 0
    · obtain ⟨d, μ', ρ', q1, q2, q3, q4, q5, q6, q7⟩ := ih n m (k + 1) μ2 ρ2 (by omega) (by omega) (by omega) (by omega) p5 (by rw [p3.2]; exact hLa)
        (by rw [p3.1 _ _ (by omega) (by omega) (by omega) (by omega) (by omega)]; exact m1) (fun i i0 i1 => by rw [p3.1 _ _ (by omega) (by omega) (by omega) (by omega) (by omega)]; exact m2 i i0 i1)
        (by rw [p4 127 a (by decide) (by decide) (by omega) (by omega)]; exact r1) (fun i i0 i1 => by rw [p4 128 _ (by decide) (by decide) (by omega) (by omega)]; exact r2 i i0 i1) (p6.trans z)
      refine ⟨d, μ', ρ', ?_, ?_, q3, ScD_tr p3 q4, DcR_tr p4 q5, by omega, q7⟩
      · rw [hu, if_pos z]; exact q1
      · rw [p7 z]; exact q2
    · refine ⟨k, μ2, ρ2, ?_, p8 z, p5, p3, p4, by omega, by omega⟩
      rw [hu, if_neg z]
theorem judg_w {a S La wh : Int} {V : Int → Int} (a0 : 0 ≤ a) (a4 : a < 4) (S40 : S ≤ 40) (hL : isL La) (hV : ∀ i, 0 ≤ i → i < S → nrl (V i) = V i) : ∀ (r n m : Nat) (k : Int) (μ ρ : Mem), 0 ≤ k → k + r = S → r < n → r < m → JR μ 60 ρ → μ 60 0 = La →
    μ (90 + 2 * a) 1 = S → (∀ i, 0 ≤ i → i < S → μ (91 + 2 * a) i = V i) → ρ 127 a = S → (∀ i, 0 ≤ i → i < S → ρ 128 (40 * a + i) = V i) → ρ 111 19 = 0 →
    ∃ d w μ' ρ', f_X11_judge_w52 n 0 wh (90 + 2 * a) k 0 k μ = f_X11_judge_j95 0 wh d w μ' ∧ f_X12_tells_w7 m 111 a k ρ = some (d, ρ') ∧ ρ' 111 19 = w ∧ (0 ≤ w ∧ w ≤ 3) ∧ JR μ' 60 ρ' ∧ ScD 60 La μ μ' ∧ DcR ρ ρ' ∧ k ≤ d ∧ d ≤ S := by
  have hL' := hL
  unfold isL at hL'
  have kT := (tray_k a0 a4).1
  intro r
  induction r with
  | zero =>
    intro n m k μ ρ k0 kS hn hm j hLa m1 m2 r1 r2 r3
    obtain ⟨n, rfl⟩ : ∃ q, n = q + 1 := ⟨n - 1, by omega⟩
    obtain ⟨m, rfl⟩ : ∃ q, m = q + 1 := ⟨m - 1, by omega⟩
    refine ⟨k, 0, μ, ρ, ?_, ?_, r3, by omega, j, ScD_rf, DcR_rf, by omega, by omega⟩
    · rw [f_X11_judge_w52, gd_pos kT, m1, nrm_id (z := S) (by omega) (by omega), nrm_id (z := k) (by omega) (by omega), if_pos (by omega)]
    · rw [f_X12_tells_w7, nrm_id (z := a) (by omega) (by omega), gd_pos ⟨a0, a4⟩, show (111 + 16 : Int) = 127 from rfl, r1, nrm_id (z := S) (by omega) (by omega), nrm_id (z := k) (by omega) (by omega), if_pos (by omega), gd_pos ⟨a0, a4⟩, show S = k by omega]
  | succ r ih =>
    intro n m k μ ρ k0 kS hn hm j hLa m1 m2 r1 r2 r3
    obtain ⟨n, rfl⟩ : ∃ q, n = q + 1 := ⟨n - 1, by omega⟩
    obtain ⟨m, rfl⟩ : ∃ q, m = q + 1 := ⟨m - 1, by omega⟩
    obtain ⟨w, μ2, ρ2, p1, p2, p3, p4, p5, p6, p7, p8⟩ := tell_step (m := m) (.inr rfl) kk_60 a0 a4 S40 hV k0 (by omega) j hLa r1 r2 r3
    have m12 : μ2 (90 + 2 * a) 1 = S := by rw [p3.1 _ _ (by omega) (by omega) (by omega) (by omega) (by omega)]; exact m1
    have hu : f_X11_judge_w52 (n + 1) 0 wh (90 + 2 * a) k 0 k μ = if nrm w = 0 then f_X11_judge_w52 n 0 wh (90 + 2 * a) (k + 1) w (k + 1) μ2 else f_X11_judge_w52 n 0 wh (90 + 2 * a) k w (k + 1) μ2 := by
      rw [f_X11_judge_w52, gd_pos kT, m1, nrm_id (z := S) (by omega) (by omega), nrm_id (z := k) (by omega) (by omega), if_neg (by omega), if_pos (by decide : nrm 0 = 0), bn_eq (numberAt_eq m1 k0 (by omega) S40), show 90 + 2 * a + 1 = 91 + 2 * a by omega, m2 k k0 (by omega), show (0 + 60 : Int) = 60 from rfl, bn_eq p1]
      rfl
    rw [nrm_id (z := w) (by omega) (by omega)] at hu
    by_cases z : w = 0
    · obtain ⟨d, w', μ', ρ', q1, q2, q3, q4, q5, q6, q7, q8, q9⟩ := ih n m (k + 1) μ2 ρ2 (by omega) (by omega) (by omega) (by omega) p5 (by rw [p3.2]; exact hLa)
        m12 (fun i i0 i1 => by rw [p3.1 _ _ (by omega) (by omega) (by omega) (by omega) (by omega)]; exact m2 i i0 i1)
        (by rw [p4 127 a (by decide) (by decide) (by omega) (by omega)]; exact r1) (fun i i0 i1 => by rw [p4 128 _ (by decide) (by decide) (by omega) (by omega)]; exact r2 i i0 i1) (p6.trans z)
      refine ⟨d, w', μ', ρ', ?_, ?_, q3, q4, q5, ScD_tr p3 q6, DcR_tr p4 q7, by omega, q9⟩
      · rw [hu, if_pos z, z]; exact q1
      · rw [p7 z]; exact q2
    · obtain ⟨n, rfl⟩ : ∃ q, n = q + 1 := ⟨n - 1, by omega⟩
      refine ⟨k, w, μ2, ρ2, ?_, p8 z, p6, p2, p5, p3, p4, by omega, by omega⟩
      rw [hu, if_neg z, f_X11_judge_w52, gd_pos kT, m12, nrm_id (z := S) (by omega) (by omega), nrm_id (z := k + 1) (by omega) (by omega), nrm_id (z := w) (by omega) (by omega)]
      by_cases e : S ≤ k + 1
      · rw [if_pos e]
      · rw [if_neg e, if_neg z]
