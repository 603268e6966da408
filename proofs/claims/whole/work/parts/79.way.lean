theorem weightOf_eq {l : Int} (μ : Mem) (l0 : 0 ≤ l) (l9 : l < 9) : f_X6_weightOf 98 l μ = some (μ 99 l, μ) := by
  unfold f_X6_weightOf
  rw [nrm_id (z := l) (by omega) (by omega), if_neg (by omega), if_pos (by show l < 9; omega), gd_pos (by omega)]
  rfl
theorem farFrom_no (μ : Mem) : f_X6_farFrom 98 (-1) μ = some (-1, μ) := by
  unfold f_X6_farFrom
  rw [if_pos (by decide)]
theorem first_w {La p : Int} {A w : Int → Int} {μ : Mem} (hL : isL La) (hR : LR μ La A) (hw : okW A w) (hwm : ∀ l, 0 ≤ l → l < A 2 → μ 99 l = w l) (hr : rowOk μ) (p0 : 0 ≤ p) (p7 : p < 7) (h1 : 0 < μ 100 p) :
    ∀ (d n : Nat) (l : Int), 0 ≤ l → l + d = A 2 → d < n → f_X6_firstOnward_w9 n 98 La p (μ 100 p) l μ = some (onL A w (xF μ) p d l, μ) := by
  obtain ⟨⟨_, _, k7⟩, ⟨g2, g20, g29⟩, _⟩ := id hR
  have rp := hr p p0 p7
  have ep : xF μ p = μ 100 p := if_neg (by omega)
  have hf : farI = 268435456 := rfl
  intro d
  induction d with
  | zero =>
    intro n l l0 ld hn
    obtain ⟨n, rfl⟩ : ∃ q, n = q + 1 := ⟨n - 1, by omega⟩
    rw [f_X6_firstOnward_w9, nrm_id (z := μ 100 p) (by omega) (by omega), if_neg (by omega), gd_pos (isL_k hL), g2, nrm_id (z := A 2) (by omega) (by omega), nrm_id (z := l) (by omega) (by omega), if_pos (by omega)]
    rfl
  | succ d ih =>
    intro n l l0 ld hn
    obtain ⟨n, rfl⟩ : ∃ q, n = q + 1 := ⟨n - 1, by omega⟩
    have ho := oeM_in (k := p) hR l0 (by omega : l < A 2)
    have wl := hw l l0 (by omega)
    have hs : f_X6_firstOnward_j67 (f_X6_firstOnward_w9 n) 98 La p (μ 100 p) l μ = some (onL A w (xF μ) p d (l + 1), μ) := ih n (l + 1) (by omega) (by omega) (by omega)
    unfold onL
    rw [f_X6_firstOnward_w9, nrm_id (z := μ 100 p) (by omega) (by omega), if_neg (by omega), gd_pos (isL_k hL), g2, nrm_id (z := A 2) (by omega) (by omega), nrm_id (z := l) (by omega) (by omega), if_neg (by omega), bn_eq (otherEnd_c hR l0 (by omega) (nrm_id (by omega) (by omega))), show nrm (-1) = -1 from rfl]
    by_cases o : oeM A l p = -1
    · rw [o, bn_eq (farFrom_no μ), bn_eq (weightOf_eq μ l0 (by omega)), if_pos (by decide : nrm (-1) = -1), if_neg (fun q => q.1 rfl)]
      exact hs
    · have ro := hr (oeM A l p) (by omega) (by omega)
      rw [bn_eq (farFrom_eq μ (by omega) (by omega)), bn_eq (weightOf_eq μ l0 (by omega)), hwm l l0 (by omega), nrm_id (z := μ 100 (oeM A l p)) (by omega) (by omega), nrm_id (z := w l) (by omega) (by omega), nrm_id (z := μ 100 (oeM A l p) + w l) (by omega) (by omega)]
      by_cases z1 : μ 100 (oeM A l p) = -1
      · rw [if_pos z1, if_neg (fun q => q.2.2.1 ((xf_far ro).mpr z1))]; exact hs
      · have eo : xF μ (oeM A l p) = μ 100 (oeM A l p) := if_neg z1
        rw [if_neg z1]
        by_cases z2 : w l = -1
        · rw [if_pos z2, if_neg (fun q => q.2.1 z2)]; exact hs
        · rw [if_neg z2]
          by_cases z3 : μ 100 (oeM A l p) + w l = μ 100 p
          · rw [if_pos z3, if_pos ⟨o, z2, by omega, by omega⟩]
          · rw [if_neg z3, if_neg (fun q => z3 (by omega))]; exact hs
theorem first_c {La p : Int} {A w : Int → Int} {μ : Mem} (hL : isL La) (hR : LR μ La A) (hw : okW A w) (hwm : ∀ l, 0 ≤ l → l < A 2 → μ 99 l = w l) (hr : rowOk μ) (p0 : 0 ≤ p) (p7 : p < 7) :
    f_X6_firstOnward 98 La p μ = some (if xF μ p = farI ∨ xF μ p = 0 then -1 else onL A w (xF μ) p (A 2).toNat 0, μ) := by
  have rp := hr p p0 p7
  have hf : farI = 268435456 := rfl
  have l2 := hR.2.1
  unfold f_X6_firstOnward
  rw [bn_eq (farFrom_eq μ p0 p7)]
  by_cases z : 0 < μ 100 p
  · have ep : xF μ p = μ 100 p := if_neg (by omega)
    rw [first_w hL hR hw hwm hr p0 p7 z (A 2).toNat FU 0 (by decide) (by omega) (by unfold FU; omega), if_neg (by omega)]
  · have : xF μ p = farI ∨ xF μ p = 0 := by
      by_cases y : μ 100 p = -1
      · exact .inl ((xf_far rp).mpr y)
      · refine .inr ?_
        have ep : xF μ p = μ 100 p := if_neg y
        omega
    rw [if_pos this]
    show f_X6_firstOnward_w9 (9999 + 1) 98 La p (μ 100 p) 0 μ = _
    rw [f_X6_firstOnward_w9, nrm_id (z := μ 100 p) (by omega) (by omega), if_pos (by omega)]
theorem onWay_w {La g i : Int} {A w : Int → Int} {μ : Mem} (hL : isL La) (hR : LR μ La A) (hw : okW A w) (hwm : ∀ l, 0 ≤ l → l < A 2 → μ 99 l = w l) (hr : rowOk μ) (g0 : 0 ≤ g) (g7 : g < 7) (hD : isD (EdG A w) g (xF μ)) (hi : nrm i = i) :
    ∀ (r n : Nat) (p k : Int), 0 ≤ p → p < 7 → 0 ≤ k → k + r = 9 → r < n → f_X6_laneOnWay_w6 n 98 La i p k μ = some (wyM A w (xF μ) r p (i - k), μ) := by
  obtain ⟨⟨_, _, k7⟩, ⟨g2, g20, g29⟩, _⟩ := id hR
  intro r
  induction r with
  | zero =>
    intro n p k p0 p7 k0 kr hn
    obtain ⟨n, rfl⟩ : ∃ q, n = q + 1 := ⟨n - 1, by omega⟩
    rw [f_X6_laneOnWay_w6, nrm_id (z := k) (by omega) (by omega), if_pos (by show (9 : Int) ≤ k; omega)]
    rfl
  | succ r ih =>
    intro n p k p0 p7 k0 kr hn
    obtain ⟨n, rfl⟩ : ∃ q, n = q + 1 := ⟨n - 1, by omega⟩
    rw [f_X6_laneOnWay_w6, nrm_id (z := k) (by omega) (by omega), if_neg (by show ¬ ((9 : Int) ≤ k); omega), bn_eq (first_c hL hR hw hwm hr p0 p7)]
    unfold wyM
    by_cases e : xF μ p = farI ∨ xF μ p = 0
    · rw [if_pos e, if_pos (by decide : nrm (-1) = nrm (-1)), if_pos e]
    · obtain ⟨q1, q2, q3, q4, _⟩ := onL_D hR hw g0 g7 hD p0 p7 (fun x => e (.inl x)) (fun x => e (.inr x))
      rw [if_neg e, if_neg e, nrm_id (z := onL A w (xF μ) p (A 2).toNat 0) (by omega) (by omega), show nrm (-1) = -1 from rfl, if_neg (by omega), hi]
      by_cases z : k = i
      · rw [if_pos z, if_pos (by omega)]
      · rw [if_neg z, if_neg (by omega), gd_pos (isL_k hL), bn_eq (otherEnd_c hR q1 q2 (nrm_id (by omega) (by omega)))]
        rw [ih n _ (k + 1) q3 q4 (by omega) (by omega) (by omega)]
        congr 3
        omega
theorem laneOnWay_eq {La g p i : Int} {A w : Int → Int} {μ : Mem} (hL : isL La) (hR : LR μ La A) (hw : okW A w) (hwm : ∀ l, 0 ≤ l → l < A 2 → μ 99 l = w l) (hr : rowOk μ) (g0 : 0 ≤ g) (g7 : g < 7) (hD : isD (EdG A w) g (xF μ)) (hi : nrm i = i) (p0 : 0 ≤ p) (p7 : p < 7) :
    f_X6_laneOnWay 98 La p i μ = some (wyM A w (xF μ) 9 p i, μ) := by
  have := onWay_w hL hR hw hwm hr g0 g7 hD hi 9 FU p 0 p0 p7 (by decide) (by decide) (by unfold FU; omega)
  rw [Int.sub_zero] at this
  exact this
theorem cb_eq {A E : Int → Int} {l p : Int} (hp : E p ≠ farI) : cbM A E l p = E p ↔ (oeM A l p ≠ -1 ∧ wC A l ≠ -1 ∧ E (oeM A l p) ≠ farI ∧ E (oeM A l p) + wC A l = E p) := by
  unfold cbM
  by_cases z : oeM A l p = -1 ∨ wC A l = -1 ∨ E (oeM A l p) = farI
  · rw [if_pos z]
    constructor
    · intro q; exact absurd q.symm hp
    · intro ⟨q1, q2, q3, _⟩
      rcases z with z | z | z
      · exact absurd z q1
      · exact absurd z q2
      · exact absurd z q3
  · rw [if_neg z]
    constructor
    · intro q; exact ⟨fun x => z (.inl x), fun x => z (.inr (.inl x)), fun x => z (.inr (.inr x)), by omega⟩
    · intro ⟨_, _, _, q⟩; omega
theorem laneAt_l {i p k : Int} {μ : Mem} {A E : Int → Int} {K : Int → Int → Int → Int → Mem → Option (Int × Mem)} (p0 : 0 ≤ p) (p7 : p < 7) (hb : ∀ k, 0 ≤ k → k < 7 → 0 ≤ E k ∧ E k ≤ farI) (hp : E p ≠ farI) :
    ∀ (d n : Nat) (l : Int) (ρ : Mem), rowA ρ 0 = A → 0 ≤ l → l + d = A 2 → d < n → JR μ 58 ρ → ρ 121 = E → onL A (wC A) E p d l ≠ -1 →
    ∃ ρ', f_X12_laneAt_w34 K n 111 i p k l ρ = (if nrm k = nrm i then some (onL A (wC A) E p d l, ρ') else K 111 i (oeM A (onL A (wC A) E p d l) p) (k + 1) ρ') ∧ ScW ρ ρ' := by
  intro d
  induction d with
  | zero => intro n l ρ _ _ _ _ _ _ h; exact absurd rfl h
  | succ d ih =>
    intro n l ρ hA l0 ld hn j hE h
    obtain ⟨n, rfl⟩ : ∃ q, n = q + 1 := ⟨n - 1, by omega⟩
    obtain ⟨hL, hR, _, ⟨L0, L9⟩, _, ⟨K1', K7⟩, _⟩ := now_is j
    have e2 : ρ 112 2 = A 2 := by rw [← hA, rowA_0]
    have e1 : ρ 112 1 = A 1 := by rw [← hA, rowA_0]
    have hf : farI = 268435456 := rfl
    obtain ⟨ρ2, p1, p2⟩ := costBy_eq j l0 (by omega : l < ρ 112 2) p0 p7 (by rw [hE]; exact hb)
    rw [hA, hE] at p1
    have row2 : ρ2 121 = E := by
      rw [← hE]
      funext i
      exact p2 121 i (by decide) (by decide)
    have hA2 : rowA ρ2 0 = A := by rw [rowA_co (ScW_sa p2)]; exact hA
    obtain ⟨j2, _⟩ := JR_sa (SaC_rfl μ) (ScW_sa p2) j
    have rp := hb p p0 p7
    have wi := wC_ok (fillOk_of j) l l0 (by rw [hA]; omega)
    rw [hA] at wi
    have ho := oeM_in (k := p) hR l0 (by rw [hA]; omega)
    rw [hA] at ho
    have cbi : -2147483648 ≤ cbM A E l p ∧ cbM A E l p < 2147483648 := by
      unfold cbM
      by_cases z : oeM A l p = -1 ∨ wC A l = -1 ∨ E (oeM A l p) = farI
      · rw [if_pos z]; decide
      · rw [if_neg z]
        have z1 : oeM A l p ≠ -1 := fun x => z (.inl x)
        have := hb (oeM A l p) (by omega) (by omega)
        omega
    have ce := cb_eq (A := A) (l := l) hp
    rw [f_X12_laneAt_w34, bn_eq p1, nrm_id (z := p) (by omega) (by omega), gd_pos ⟨p0, p7⟩, show (111 + 10 : Int) = 121 from rfl, row2, nrm_id (z := E p) (by omega) (by omega), nrm_id cbi.1 cbi.2]
    unfold onL at h ⊢
    by_cases c : oeM A l p ≠ -1 ∧ wC A l ≠ -1 ∧ E (oeM A l p) ≠ farI ∧ E (oeM A l p) + wC A l = E p
    · rw [if_pos (ce.mpr c), if_pos c, bn_eq (by rw [otherEnd_m j2.2.1 l0 (by rw [p2 112 2 (by decide) (by decide)]; omega) (nrm_id (by omega) (by omega)), hA2])]
      exact ⟨ρ2, rfl, p2⟩
    · rw [if_neg (fun q => c (ce.mp q)), if_neg c]
      rw [if_neg c] at h
      obtain ⟨ρ', y1, y2⟩ := ih n (l + 1) ρ2 hA2 (by omega) (by omega) (by omega) j2 row2 h
      exact ⟨ρ', y1, ScW_tr p2 y2⟩
theorem laneAt_w {g i : Int} {μ : Mem} {A E : Int → Int} (g0 : 0 ≤ g) (g7 : g < 7) (hE : isD (EdG A (wC A)) g E) (hi : nrm i = i) :
    ∀ (r n : Nat) (p k : Int) (ρ : Mem), rowA ρ 0 = A → 0 ≤ p → p < 7 → 0 ≤ k → k + r ≤ 100 → rkD E p < r → r < n → JR μ 58 ρ → ρ 121 = E → ∃ ρ', f_X12_laneAt_w10 n 111 i p k ρ = some (wyM A (wC A) E r p (i - k), ρ') ∧ ScW ρ ρ' := by
  intro r
  induction r with
  | zero =>
    intro n p k ρ hA p0 p7 k0 kr hrk
    have := rk_6 E p0 p7
    omega
  | succ r ih =>
    intro n p k ρ hA p0 p7 k0 kr hrk hn j hEr
    obtain ⟨n, rfl⟩ : ∃ q, n = q + 1 := ⟨n - 1, by omega⟩
    obtain ⟨hL, hR, _, ⟨L0, L9⟩, _⟩ := now_is j
    have fo := fillOk_of j
    have e2 : ρ 112 2 = A 2 := by rw [← hA, rowA_0]
    rw [hA] at hR fo
    have rp := hE.1.2.1 p p0 p7
    have hf : farI = 268435456 := rfl
    rw [f_X12_laneAt_w10, nrm_id (z := p) (by omega) (by omega), gd_pos ⟨p0, p7⟩, gd_pos ⟨p0, p7⟩, show (111 + 10 : Int) = 121 from rfl, hEr, nrm_id (z := E p) (by omega) (by omega), show nrm 268435456 = farI from rfl]
    unfold wyM
    by_cases z1 : E p ≤ 0
    · rw [if_pos z1, if_pos (.inr (by omega))]; exact ⟨ρ, rfl, ScW_rf⟩
    · rw [if_neg z1]
      by_cases z2 : farI ≤ E p
      · rw [if_pos z2, if_pos (.inl (by omega))]; exact ⟨ρ, rfl, ScW_rf⟩
      · rw [if_neg z2, if_neg (by omega)]
        obtain ⟨q1, q2, q3, q4, _, _, _, q8⟩ := onL_D hR (wC_ok fo) g0 g7 hE p0 p7 (by omega) (by omega)
        obtain ⟨ρ2, p1, p2⟩ := laneAt_l (K := f_X12_laneAt_w10 n) (i := i) (k := k) (μ := μ) (A := A) p0 p7 hE.1.2.1 (by omega) (A 2).toNat FU 0 ρ hA (by decide) (by omega) (by unfold FU; omega) j hEr (by omega)
        rw [p1, nrm_id (z := k) (by omega) (by omega), hi]
        by_cases z : k = i
        · rw [if_pos z, if_pos (by omega)]; exact ⟨ρ2, rfl, p2⟩
        · rw [if_neg z, if_neg (by omega)]
          have row2 : ρ2 121 = E := by
            rw [← hEr]
            funext i
            exact p2 121 i (by decide) (by decide)
          obtain ⟨ρ3, y1, y2⟩ := ih n _ (k + 1) ρ2 (by rw [rowA_co (ScW_sa p2)]; exact hA) q3 q4 (by omega) (by omega) (by omega) (by omega) (JR_sa (SaC_rfl μ) (ScW_sa p2) j).1 row2
          refine ⟨ρ3, ?_, ScW_tr p2 y2⟩
          rw [y1]
          congr 3
          omega
theorem laneAt_eq {g i : Int} {μ ρ : Mem} (j : JR μ 58 ρ) (g0 : 0 ≤ g) (g7 : g < 7) (hE : isD (EdG (rowA ρ 0) (wC (rowA ρ 0))) g (ρ 121)) (hi : nrm i = i) : ∃ ρ', f_X12_laneAt 111 i ρ = some (wyM (rowA ρ 0) (wC (rowA ρ 0)) (ρ 121) 9 (ρ 112 55) i, ρ') ∧ ScW ρ ρ' := by
  obtain ⟨_, _, _, _, _, ⟨K1, K7⟩, _, ⟨c1, c2, c3⟩, _⟩ := now_is j
  have := rk_6 (ρ 121) c2 (by omega : ρ 112 55 < 7)
  obtain ⟨ρ2, p1, p2⟩ := laneAt_w (μ := μ) g0 g7 hE hi 9 FU (ρ 112 55) 0 ρ rfl c2 (by omega) (by decide) (by decide) (by omega) (by unfold FU; omega) j rfl
  refine ⟨ρ2, ?_, p2⟩
  unfold f_X12_laneAt
  rw [nm_eq, show (111 + 1 : Int) = 112 from rfl, p1, Int.sub_zero]
theorem wfill_w {ρ : Mem} : ∀ (d k n : Nat) (μ : Mem), k + d = 9 → d < n → JR μ 58 ρ → (∀ l : Int, 0 ≤ l → l < k → l < ρ 112 2 → μ 99 l = wK (rowA ρ 0) l) →
    ∃ μ', f_X6_weighFillings_w2 n 98 58 k μ = some (0, μ') ∧ SaC μ μ' ∧ (∀ l : Int, 0 ≤ l → l < 9 → l < ρ 112 2 → μ' 99 l = wK (rowA ρ 0) l) := by
  intro d
  induction d with
  | zero =>
    intro k n μ hk hn j h
    obtain ⟨n, rfl⟩ : ∃ q, n = q + 1 := ⟨n - 1, by omega⟩
    obtain rfl : k = 9 := by omega
    refine ⟨μ, ?_, SaC_rfl μ, h⟩
    rw [f_X6_weighFillings_w2, if_pos (by decide)]
  | succ d ih =>
    intro k n μ hk hn j h
    obtain ⟨n, rfl⟩ : ∃ q, n = q + 1 := ⟨n - 1, by omega⟩
    obtain ⟨hL, hR, _, ⟨L0, L9⟩, _, _, hl, _⟩ := now_is j
    have hLo := hL
    unfold isL at hLo
    have hu : ∀ v (μ2 : Mem), f_X6_weighFillings_j49 (f_X6_weighFillings_w2 n) 98 58 k (98 + 1) k v μ2 = f_X6_weighFillings_w2 n 98 58 ((k + 1 : Nat) : Int) (ms μ2 99 k v) := by
      intro v μ2
      unfold f_X6_weighFillings_j49
      rw [nrm_id (z := (k : Int)) (by omega) (by omega), gd_pos ⟨by decide, by omega, by show (k : Int) < 9; omega⟩, nm_eq, show ((k + 1 : Nat) : Int) = (k : Int) + 1 by omega]
      rfl
    have nx : ∀ v (μ2 : Mem), SaC μ μ2 → (∀ l, μ2 99 l = μ 99 l) → ((k : Int) < ρ 112 2 → v = wK (rowA ρ 0) k) → ∃ μ', f_X6_weighFillings_w2 n 98 58 ((k + 1 : Nat) : Int) (ms μ2 99 k v) = some (0, μ') ∧ SaC μ μ' ∧ (∀ l : Int, 0 ≤ l → l < 9 → l < ρ 112 2 → μ' 99 l = wK (rowA ρ 0) l) := by
      intro v μ2 p2 e99 hv
      have sa : SaC μ (ms μ2 99 k v) := SaC_tr p2 SaC_ms99
      obtain ⟨μ', y1, y2, y3⟩ := ih (k + 1) n (ms μ2 99 k v) (by omega) (by omega) (JR_sa sa (SaR_rfl ρ) j).1 (by
        intro l l0 l1 l2
        by_cases e : l = k
        · rw [e, ms_eq]; exact hv (by omega)
        · rw [ms_ni e, e99]; exact h l l0 (by omega) l2)
      exact ⟨μ', y1, SaC_tr sa y2, y3⟩
    rw [f_X6_weighFillings_w2, nrm_id (z := (k : Int)) (by omega) (by omega), if_neg (by show ¬ ((9 : Int) ≤ k); omega), gd_pos kk_58, gd_pos (isL_k hL), bn_eq (hasLane_eq hl L0 L9 (nrm_id (by omega) (by omega)))]
    unfold f_X6_weighFillings_j28
    by_cases g : 0 ≤ (k : Int) ∧ (k : Int) < ρ 112 2
    · obtain ⟨μ2, p1, p2⟩ := fillingsOf_c (.inl rfl) kk_58 j g.1 g.2
      have fi := fillM_in j g.1 g.2
      rw [if_pos g, if_neg (by decide : ¬ nrm 1 = 0), bn_eq p1, nrm_id (z := fillM (rowA ρ 0) k) (by omega) (by omega), show nrm (-1) = -1 from rfl, hu, hu]
      have e99 : ∀ l, μ2 99 l = μ 99 l := fun l => p2 99 l (by omega) (by omega) (by omega)
      by_cases e : fillM (rowA ρ 0) k = -1
      · rw [if_pos e]
        exact nx _ μ2 (ScL_sa hL p2) e99 (fun _ => by unfold wK; rw [if_pos e])
      · rw [if_neg e]
        exact nx _ μ2 (ScL_sa hL p2) e99 (fun _ => by unfold wK; rw [if_neg e])
    · rw [if_neg g, if_pos (by decide : nrm 0 = 0), if_pos (by decide : nrm (-1) = nrm (-1)), hu]
      exact nx _ μ (SaC_rfl μ) (fun _ => rfl) (fun q => absurd q (by omega))
theorem weighFillings_eq {μ ρ : Mem} (j : JR μ 58 ρ) : ∃ μ', f_X6_weighFillings 98 58 μ = some (0, μ') ∧ SaC μ μ' ∧ (∀ l, 0 ≤ l → l < ρ 112 2 → μ' 99 l = wK (rowA ρ 0) l) := by
  obtain ⟨_, _, _, ⟨L0, L9⟩, _⟩ := now_is j
  obtain ⟨μ2, p1, p2, p3⟩ := wfill_w (ρ := ρ) 9 0 FU μ (by omega) (by unfold FU; omega) j (fun l _ l1 => absurd l1 (by omega))
  exact ⟨μ2, p1, p2, fun l l0 l1 => p3 l l0 (by omega) l1⟩
theorem measureFillings_eq {g : Int} {μ ρ : Mem} (j : JR μ 58 ρ) (g0 : 0 ≤ g) (g7 : g < 7) : ∃ μ', f_X6_measureFillings 98 58 g μ = some (0, μ') ∧ SaC μ μ' ∧ isD (EdG (rowA ρ 0) (wK (rowA ρ 0))) g (xF μ') ∧ rowOk μ' ∧ (∀ l, 0 ≤ l → l < ρ 112 2 → μ' 99 l = wK (rowA ρ 0) l) := by
  obtain ⟨_, _, _, ⟨L0, L9⟩, _⟩ := now_is j
  obtain ⟨μ2, p1, p2, p3⟩ := weighFillings_eq j
  obtain ⟨j2, _⟩ := JR_sa p2 (SaR_rfl ρ) j
  obtain ⟨μ3, q1, q2, q3, q4⟩ := measure_eq (La := μ2 58 0) (A := rowA ρ 0) (w := wK (rowA ρ 0)) j2.1 (wK_ok (fillOk_of j)) g0 g7 j2.2.1 (fun l l0 l1 => by rw [rowA_0] at l1; exact p3 l l0 l1)
  refine ⟨μ3, ?_, SaC_tr p2 (SaC_100 q4), q2, q3, fun l l0 l1 => by rw [q4 99 l (by decide)]; exact p3 l l0 l1⟩
  unfold f_X6_measureFillings
  rw [bn_eq p1, gd_pos kk_58, bn_eq q1]
theorem op_cheapest (a b : Int) (ha : nrm a = a) (hb : nrm b = b) : Op2 (f_X11_cheapest 0 a b) (f_X12_cheapest 111 a b) := by
  intro μ ρ h
  have h' := RR_co (SaC_rfl μ) (SaR_thrown ρ 0) h
  generalize hρ : ms ρ 111 0 0 = ρ1 at h'
  have j : JR μ 58 ρ1 := h'.2.2.1
  obtain ⟨hL, hR, _, ⟨L0, L9⟩, _, ⟨K1, K7⟩, hl, ⟨c1, c2, c3⟩, _⟩ := now_is j
  unfold f_X11_cheapest f_X12_cheapest
  rw [nm_eq, hρ, show (0 + 58 : Int) = 58 from rfl, show (0 + 98 : Int) = 98 from rfl, gd_pos (isL_k hL), bn_eq (hasPlace_eq hR ha), bn_eq (isPlace_eq K1 K7 ha), rowA_0]
  by_cases g : 0 ≤ a ∧ a < ρ1 112 1
  · rw [if_pos g, if_neg (by decide : ¬ nrm 1 = 0), if_neg (by decide : ¬ nrm 1 = 0), bn_within hb rfl rfl, hb, show nrm 1 = 1 from rfl]
    by_cases q : 0 ≤ b ∧ b ≤ 1
    · rw [if_neg (by omega : ¬ b < 0), if_pos q.2, if_pos q, if_neg (by decide : ¬ nrm 1 = 0)]
      obtain ⟨μ2, p1, p2, p3, p4, _⟩ := measureFillings_eq j g.1 (by omega : a < 7)
      obtain ⟨ρ2, q1, q2, q3⟩ := laysCost_eq g.1 (by omega : a < 7) j
      have fo := fillOk_of j
      have cv := cv_eq fo (EdG_ok hR (wK_ok fo)) (EdG_ok hR (wC_ok fo)) g.1 (by omega : a < 7) p3 q2 c2 (by omega : ρ1 112 55 < 7)
      have e58 : μ2 58 1 = ρ1 112 55 := by rw [p2 58 1 (by unfold EssC; omega)]; exact c1
      have hRR := RR_co p2 (Sc121_sa q3) h'
      have rk := p4 (ρ1 112 55) c2 (by omega)
      have hf : farI = 268435456 := rfl
      rw [bn_eq p1, e58, bn_eq (farFrom_eq μ2 c2 (by omega)), bn_eq q1, nrm_id (z := μ2 100 (ρ1 112 55)) (by omega) (by omega), show nrm (-1) = -1 from rfl, show nrm 268435456 = farI from rfl]
      rcases cv with ⟨x1, x2⟩ | ⟨x1, x2, x3, x4, x5, x6⟩
      · rw [x2, if_pos ((xf_far rk).mp x1), if_pos (by decide : nrm farI = farI)]
        simp only [wp_some]
        exact ⟨trivial, hRR⟩
      · have n1 : μ2 100 (ρ1 112 55) ≠ -1 := fun z => x1 ((xf_far rk).mpr z)
        have eD : xF μ2 (ρ1 112 55) = μ2 100 (ρ1 112 55) := if_neg n1
        rw [eD] at x3 x4 x5 x6
        unfold cvM at x3
        have n2 : ¬ nrm (ρ2 121 (ρ1 112 55)) = farI := by rw [nrm_id (by omega) (by omega)]; exact x2
        rw [if_neg n1, if_neg n2]
        unfold f_X6_fillingsIn f_X6_lanesIn
        rw [bn_eq rfl, bn_eq rfl]
        by_cases z : b = 0
        · rw [if_pos z, if_pos z]
          simp only [wp_some]
          refine ⟨?_, hRR⟩
          rw [jdiv_nn x4 (by omega) (by decide) (by decide), jdiv_nn (by omega) (by omega) (by decide) (by decide)]
          congr 1
          omega
        · rw [if_neg z, if_neg z]
          simp only [wp_some]
          refine ⟨?_, hRR⟩
          rw [jrem_nn x4 (by omega) (by decide) (by decide), jrem_nn (by omega) (by omega) (by decide) (by decide)]
          congr 1
          omega
    · rw [if_neg q, if_pos (by decide : nrm 0 = 0)]
      by_cases b0 : b < 0
      · rw [if_pos b0]; simp only [wp_some]; exact ⟨trivial, h'⟩
      · rw [if_neg b0, if_neg (by omega)]; simp only [wp_some]; exact ⟨trivial, h'⟩
  · rw [if_neg g, if_pos (by decide : nrm 0 = 0), if_pos (by decide : nrm 0 = 0)]
    simp only [wp_some]
    exact ⟨trivial, h'⟩
theorem op_cheapBy (a b : Int) (ha : nrm a = a) (hb : nrm b = b) : Op2 (f_X11_cheapBy 0 a b) (f_X12_cheapBy 111 a b) := by
  intro μ ρ h
  have h' := RR_co (SaC_rfl μ) (SaR_thrown ρ 0) h
  generalize hρ : ms ρ 111 0 0 = ρ1 at h'
  have j : JR μ 58 ρ1 := h'.2.2.1
  obtain ⟨hL, hR, _, ⟨L0, L9⟩, _, ⟨K1, K7⟩, hl, ⟨c1, c2, c3⟩, _⟩ := now_is j
  unfold f_X11_cheapBy f_X12_cheapBy
  rw [nm_eq, hρ, show (0 + 58 : Int) = 58 from rfl, show (0 + 98 : Int) = 98 from rfl, gd_pos (isL_k hL), bn_eq (hasPlace_eq hR ha), bn_eq (isPlace_eq K1 K7 ha), rowA_0, hb]
  by_cases g : 0 ≤ a ∧ a < ρ1 112 1
  · rw [if_pos g, if_neg (by decide : ¬ nrm 1 = 0), if_neg (by decide : ¬ nrm 1 = 0)]
    by_cases q : 0 ≤ b
    · rw [if_pos q, if_pos q]
      obtain ⟨μ2, p1, p2, p3, p4, p5⟩ := measureFillings_eq j g.1 (by omega : a < 7)
      obtain ⟨ρ2, q1, q2, q3⟩ := laysCost_eq g.1 (by omega : a < 7) j
      have fo := fillOk_of j
      obtain ⟨j2, j3⟩ := JR_sa p2 (SaR_rfl ρ1) j
      obtain ⟨hL2, hR2, _⟩ := now_is j2
      have e58 : μ2 58 1 = ρ1 112 55 := by rw [p2 58 1 (by unfold EssC; omega)]; exact c1
      have lw := laneOnWay_eq (A := rowA ρ1 0) (w := wK (rowA ρ1 0)) (i := b) hL2 hR2 (wK_ok fo) (fun l l0 l1 => by rw [rowA_0] at l1; exact p5 l l0 l1) p4 g.1 (by omega : a < 7) p3 hb c2 (by omega : ρ1 112 55 < 7)
      have jr2 := (JR_sa (SaC_rfl μ) (Sc121_sa q3) j).1
      have eA : rowA ρ2 0 = rowA ρ1 0 := rowA_co (Sc121_sa q3) 0
      obtain ⟨ρ3, r1, r2⟩ := laneAt_eq (i := b) jr2 g.1 (by omega : a < 7) (by rw [eA]; exact q2) hb
      rw [eA, q3 112 55 (by decide) (by decide) (by decide)] at r1
      rw [bn_eq p1, e58, bn_eq lw, bn_eq q1, bn_eq r1]
      simp only [wp_some]
      refine ⟨?_, RR_co p2 (SaR_tr (Sc121_sa q3) (ScW_sa r2)) h'⟩
      rw [wyM_cv hR fo g.1 (by omega : a < 7) p3 q2 9 (ρ1 112 55) b c2 (by omega)]
    · rw [if_neg q, if_neg q]
      simp only [wp_some]; exact ⟨trivial, h'⟩
  · rw [if_neg g, if_pos (by decide : nrm 0 = 0), if_pos (by decide : nrm 0 = 0)]
    simp only [wp_some]
    exact ⟨trivial, h'⟩
