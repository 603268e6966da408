def Sc125 (ρ ρ' : Mem) : Prop := ∀ c i, c ≠ 116 → c ≠ 117 → c ≠ 125 → ρ' c i = ρ c i
theorem Sc125_sa {ρ ρ' : Mem} (h : Sc125 ρ ρ') : SaR ρ ρ' := by
  intro c i e
  unfold EssR at e
  exact h c i (by omega) (by omega) (by omega)
theorem Sc125_tr {a b c : Mem} (h : Sc125 a b) (k : Sc125 b c) : Sc125 a c := fun x i e1 e2 e3 => (k x i e1 e2 e3).trans (h x i e1 e2 e3)
theorem whole_w : ∀ (d r n : Nat) (ρ : Mem), r + d ≤ 7 → d < n → f_X12_wholeOf_w4 n ((r + d : Nat) : Int) (10 ^ r) r ρ = some (10 ^ (r + d), ρ) := by
  intro d
  induction d with
  | zero =>
    intro r n ρ h hn
    obtain ⟨n, rfl⟩ : ∃ q, n = q + 1 := ⟨n - 1, by omega⟩
    show f_X12_wholeOf_w4 (n + 1) (r : Int) (10 ^ r) r ρ = some (10 ^ r, ρ)
    rw [f_X12_wholeOf_w4, if_pos (Int.le_refl _)]
  | succ d ih =>
    intro r n ρ h hn
    obtain ⟨n, rfl⟩ : ∃ q, n = q + 1 := ⟨n - 1, by omega⟩
    rw [f_X12_wholeOf_w4, nrm_id (z := ((r + (d + 1) : Nat) : Int)) (by omega) (by omega), nrm_id (z := (r : Int)) (by omega) (by omega), if_neg (by omega), nm_eq, ← Int.pow_succ]
    have := ih (r + 1) n ρ (by omega) (by omega)
    rw [show ((r + 1 : Nat) : Int) = (r : Int) + 1 by omega, show r + 1 + d = r + (d + 1) by omega] at this
    exact this
theorem wholeOf_eq {N : Int} (ρ : Mem) (N0 : 0 ≤ N) (N7 : N ≤ 7) : f_X12_wholeOf N ρ = some (10 ^ N.toNat, ρ) := by
  have := whole_w N.toNat 0 FU ρ (by omega) (by unfold FU; omega)
  simp only [Nat.zero_add, Int.toNat_of_nonneg N0] at this
  exact this
theorem likelyBy_eq {μ ρ : Mem} {l k r : Int} {A P : Int → Int} (j : JR μ 58 ρ) (hA : rowA ρ 0 = A) (l0 : 0 ≤ l) (l1 : l < A 2) (k0 : 0 ≤ k) (k7 : k < 7) (r1 : 1 ≤ r) (r7 : r ≤ 7) (hP : ∀ q, 0 ≤ q → q < A 1 → ρ 125 (7 * (r - 1) + q) = P q) :
    ∃ ρ', f_X12_likelyBy 111 l k r ρ = some (lbM A P k l, ρ') ∧ ScW ρ ρ' := by
  obtain ⟨hL, hR, _, ⟨L0, L9⟩, _, ⟨K1, K7⟩, _⟩ := now_is j
  have e2 : ρ 112 2 = A 2 := by rw [← hA, rowA_0]
  have e1 : ρ 112 1 = A 1 := by rw [← hA, rowA_0]
  have ho := oeM_in (k := k) hR l0 (by rw [hA]; exact l1)
  rw [hA] at ho
  have oe := otherEnd_m hR l0 (by omega : l < ρ 112 2) (nrm_id (z := k) (by omega) (by omega))
  rw [hA] at oe
  have hop : mayM (rowA ρ 0) l (ρ 112 (56 + l)) (ρ 112 66) (ρ 112 65) = openM A l := by
    unfold openM
    rw [← hA, rowA_0, rowA_0, rowA_0]
  obtain ⟨ρ2, p1, p2⟩ := isOpen_m j l0 (by omega : l < ρ 112 2)
  rw [hop] at p1
  have o : openM A l = 0 ∨ openM A l = 1 := mayM_01 _ _ _ _ _
  unfold f_X12_likelyBy lbM
  rw [bn_eq oe, nrm_id (z := oeM A l k) (by omega) (by omega), show nrm (-1) = -1 from rfl, bn_eq p1, nrm_id (z := openM A l) (by omega) (by omega)]
  by_cases z1 : oeM A l k = -1
  · rw [if_pos z1, if_pos (.inl z1)]; exact ⟨ρ, rfl, ScW_rf⟩
  · rw [if_neg z1]
    by_cases z2 : openM A l = 0
    · rw [if_pos z2, if_pos (.inr z2)]; exact ⟨ρ2, rfl, p2⟩
    · rw [if_neg z2, if_neg (show ¬ (oeM A l k = -1 ∨ openM A l = 0) from fun q => q.elim z1 z2), nrm_id (z := 38 + l) (by omega) (by omega), gd_pos (by omega), nrm_id (z := 7 * (r - 1) + oeM A l k) (by omega) (by omega), gd_pos (by omega), show (111 + 1 : Int) = 112 from rfl, show (111 + 14 : Int) = 125 from rfl, p2 112 _ (by decide) (by decide), p2 125 _ (by decide) (by decide), hP _ (by omega) (by omega), ← rowA_0 ρ (38 + l), hA]
      exact ⟨ρ2, rfl, p2⟩
theorem likely_l {g k N M : Int} {μ : Mem} {A P : Int → Int} {r : Nat} {K2 : Int → Int → Int → Int → Mem → Option (Int × Mem)} {K10 : Int → Int → Int → Int → Int → Mem → Option (Int × Mem)} (k0 : 0 ≤ k) (k1 : k < A 1) (kg : k ≠ g) (g0 : 0 ≤ g) (g7 : g < 7) (r7 : r + 1 ≤ 7) (M0 : 0 ≤ M) (M6 : M ≤ 1000000) (hPb : ∀ q, 0 ≤ q → q < A 1 → 0 ≤ P q ∧ P q ≤ M) :
    ∀ (d l n : Nat) (ρ : Mem), rowA ρ 0 = A → (l : Int) + d = A 2 → d < n → JR μ 58 ρ → (∀ q, 0 ≤ q → q < A 1 → ρ 125 (7 * (r : Int) + q) = P q) →
    ∃ ρ', f_X12_laysLikely_w40 K2 K10 n 111 g N ((r + 1 : Nat) : Int) k (mxT A P k l) l ρ = f_X12_laysLikely_j97 K2 K10 111 g N ((r + 1 : Nat) : Int) k (mxT A P k (A 2).toNat) ρ' ∧ ScW ρ ρ' := by
  intro d
  induction d with
  | zero =>
    intro l n ρ hA ld hn j hP
    obtain ⟨n, rfl⟩ : ∃ q, n = q + 1 := ⟨n - 1, by omega⟩
    obtain ⟨_, _, _, ⟨L0, L9⟩, _⟩ := now_is j
    have e2 : ρ 112 2 = A 2 := by rw [← hA, rowA_0]
    refine ⟨ρ, ?_, ScW_rf⟩
    rw [f_X12_laysLikely_w40, show (111 + 1 : Int) = 112 from rfl, nrm_id (z := ρ 112 2) (by omega) (by omega), nrm_id (z := (l : Int)) (by omega) (by omega), if_pos (by omega), show (A 2).toNat = l by omega]
  | succ d ih =>
    intro l n ρ hA ld hn j hP
    obtain ⟨n, rfl⟩ : ∃ q, n = q + 1 := ⟨n - 1, by omega⟩
    obtain ⟨_, hR, _, ⟨L0, L9⟩, _, ⟨K1, K7⟩, _⟩ := now_is j
    have e2 : ρ 112 2 = A 2 := by rw [← hA, rowA_0]
    have e1 : ρ 112 1 = A 1 := by rw [← hA, rowA_0]
    rw [hA] at hR
    have lb := lb_in (k := k) hR (l := (l : Int)) (by omega) (by omega) hPb
    have mi := mxT_in (k := k) hR M0 hPb l (by omega)
    obtain ⟨ρ2, p1, p2⟩ := likelyBy_eq (P := P) (r := ((r + 1 : Nat) : Int)) j hA (l := (l : Int)) (by omega) (by omega) k0 (by omega) (by omega) (by omega) (by rw [show ((r + 1 : Nat) : Int) - 1 = (r : Int) by omega]; exact hP)
    obtain ⟨j2, _⟩ := JR_sa (SaC_rfl μ) (ScW_sa p2) j
    have hA2 : rowA ρ2 0 = A := by rw [rowA_co (ScW_sa p2)]; exact hA
    have hP2 : ∀ q, 0 ≤ q → q < A 1 → ρ2 125 (7 * (r : Int) + q) = P q := fun q q0 q1 => by rw [p2 125 _ (by decide) (by decide)]; exact hP q q0 q1
    obtain ⟨ρ3, q1, q2⟩ := likelyBy_eq (P := P) (r := ((r + 1 : Nat) : Int)) j2 hA2 (l := (l : Int)) (by omega) (by omega) k0 (by omega) (by omega) (by omega) (by rw [show ((r + 1 : Nat) : Int) - 1 = (r : Int) by omega]; exact hP2)
    have s3 := ScW_tr p2 q2
    have hu : f_X12_laysLikely_w40 K2 K10 (n + 1) 111 g N ((r + 1 : Nat) : Int) k (mxT A P k l) l ρ = if lbM A P k l ≤ mxT A P k l then f_X12_laysLikely_w40 K2 K10 n 111 g N ((r + 1 : Nat) : Int) k (mxT A P k l) ((l : Int) + 1) ρ2 else f_X12_laysLikely_w40 K2 K10 n 111 g N ((r + 1 : Nat) : Int) k (lbM A P k l) ((l : Int) + 1) ρ3 := by
      rw [f_X12_laysLikely_w40, show (111 + 1 : Int) = 112 from rfl, nrm_id (z := ρ 112 2) (by omega) (by omega), nrm_id (z := (l : Int)) (by omega) (by omega), if_neg (by omega), nrm_id (z := ((r + 1 : Nat) : Int)) (by omega) (by omega), if_neg (by omega), nrm_id (z := k) (by omega) (by omega), nrm_id (z := g) (by omega) (by omega), if_neg kg, bn_eq p1, bn_eq q1, nrm_id (z := lbM A P k l) (by omega) (by omega), nrm_id (z := mxT A P k l) (by omega) (by omega)]
      rfl
    have hmx : mxT A P k (l + 1) = if mxT A P k l < lbM A P k l then lbM A P k l else mxT A P k l := rfl
    by_cases z : lbM A P k l ≤ mxT A P k l
    · rw [if_pos z] at hu
      obtain ⟨ρ', y1, y2⟩ := ih (l + 1) n ρ2 hA2 (by omega) (by omega) j2 hP2
      rw [hmx, if_neg (by omega)] at y1
      exact ⟨ρ', by rw [hu]; exact y1, ScW_tr p2 y2⟩
    · rw [if_neg z] at hu
      obtain ⟨ρ', y1, y2⟩ := ih (l + 1) n ρ3 (by rw [rowA_co (ScW_sa s3)]; exact hA) (by omega) (by omega) (JR_sa (SaC_rfl μ) (ScW_sa s3) j).1 (fun q q0 q1 => by rw [s3 125 _ (by decide) (by decide)]; exact hP q q0 q1)
      rw [hmx, if_pos (by omega)] at y1
      exact ⟨ρ', by rw [hu]; exact y1, ScW_tr s3 y2⟩
theorem likely_k {g N : Int} {μ : Mem} {A : Int → Int} {r : Nat} {K2 : Int → Int → Int → Int → Mem → Option (Int × Mem)} (g0 : 0 ≤ g) (g7 : g < 7) (r7 : r ≤ 7) :
    ∀ (d n : Nat) (k : Int) (ρ : Mem), rowA ρ 0 = A → 0 ≤ k → k + d = A 1 → d < n → JR μ 58 ρ → (∀ (q : Nat) (i : Int), q < r → 0 ≤ i → i < A 1 → ρ 125 (7 * (q : Int) + i) = lkM A g q i) → (∀ i, 0 ≤ i → i < k → ρ 125 (7 * (r : Int) + i) = lkM A g r i) →
    ∃ ρ', f_X12_laysLikely_w10 K2 n 111 g N r k ρ = K2 111 g N ((r : Int) + 1) ρ' ∧ Sc125 ρ ρ' ∧ (∀ (q : Nat) (i : Int), q < r + 1 → 0 ≤ i → i < A 1 → ρ' 125 (7 * (q : Int) + i) = lkM A g q i) := by
  intro d
  induction d with
  | zero =>
    intro n k ρ hA k0 kd hn j h1 h2
    obtain ⟨n, rfl⟩ : ∃ q, n = q + 1 := ⟨n - 1, by omega⟩
    obtain ⟨_, _, _, _, _, ⟨K1, K7⟩, _⟩ := now_is j
    have e1 : ρ 112 1 = A 1 := by rw [← hA, rowA_0]
    refine ⟨ρ, ?_, fun _ _ _ _ _ => rfl, ?_⟩
    · rw [f_X12_laysLikely_w10, show (111 + 1 : Int) = 112 from rfl, nrm_id (z := ρ 112 1) (by omega) (by omega), nrm_id (z := k) (by omega) (by omega), if_pos (by omega)]
    · intro q i hq i0 i1
      by_cases e : q = r
      · subst e; exact h2 i i0 (by omega)
      · exact h1 q i (by omega) i0 i1
  | succ d ih =>
    intro n k ρ hA k0 kd hn j h1 h2
    obtain ⟨n, rfl⟩ : ∃ q, n = q + 1 := ⟨n - 1, by omega⟩
    obtain ⟨_, hR, _, ⟨L0, L9⟩, _, ⟨K1, K7⟩, _⟩ := now_is j
    have e1 : ρ 112 1 = A 1 := by rw [← hA, rowA_0]
    have e2 : ρ 112 2 = A 2 := by rw [← hA, rowA_0]
    rw [hA] at hR
    -- what is laid
    have key : ∃ ρ2, f_X12_laysLikely_w10 K2 (n + 1) 111 g N r k ρ = f_X12_laysLikely_j97 K2 (f_X12_laysLikely_w10 K2 n) 111 g N r k (lkM A g r k) ρ2 ∧ ScW ρ ρ2 := by
      have hu : f_X12_laysLikely_w10 K2 (n + 1) 111 g N r k ρ = if k = g then f_X12_laysLikely_w40 K2 (f_X12_laysLikely_w10 K2 n) FU 111 g N r k (10 ^ r) 0 ρ else f_X12_laysLikely_w40 K2 (f_X12_laysLikely_w10 K2 n) FU 111 g N r k 0 0 ρ := by
        have hw := wholeOf_eq (N := (r : Int)) ρ (by omega) (by omega)
        rw [Int.toNat_natCast] at hw
        rw [f_X12_laysLikely_w10, show (111 + 1 : Int) = 112 from rfl, nrm_id (z := ρ 112 1) (by omega) (by omega), nrm_id (z := k) (by omega) (by omega), if_neg (by omega), nrm_id (z := g) (by omega) (by omega), bn_eq hw]
        rfl
      by_cases e : k = g
      · rw [if_pos e] at hu
        refine ⟨ρ, ?_, ScW_rf⟩
        have hl : lkM A g r k = 10 ^ r := by
          cases r with
          | zero => unfold lkM; rw [if_pos e]; rfl
          | succ q => unfold lkM; rw [if_pos e]
        rw [hu, hl]
        show f_X12_laysLikely_w40 K2 (f_X12_laysLikely_w10 K2 n) (9999 + 1) 111 g N r k (10 ^ r) 0 ρ = _
        rw [f_X12_laysLikely_w40, nrm_id (z := k) (by omega) (by omega), nrm_id (z := g) (by omega) (by omega), if_pos e]
        split
        · rfl
        · split <;> rfl
      · rw [if_neg e] at hu
        cases r with
        | zero =>
          refine ⟨ρ, ?_, ScW_rf⟩
          have hl : lkM A g 0 k = 0 := by unfold lkM; rw [if_neg e]
          rw [hu, hl]
          show f_X12_laysLikely_w40 K2 (f_X12_laysLikely_w10 K2 n) (9999 + 1) 111 g N ((0 : Nat) : Int) k 0 0 ρ = _
          rw [f_X12_laysLikely_w40, if_pos (by decide : nrm ((0 : Nat) : Int) ≤ 0)]
          split <;> rfl
        | succ q =>
          have hl : lkM A g (q + 1) k = mxT A (lkM A g q) k (A 2).toNat := by
            show (if k = g then 10 ^ (q + 1) else mxT A (lkM A g q) k (A 2).toNat) = _
            rw [if_neg e]
          have p10 := pow10 (r := q) (by omega)
          have M6 : (10 : Int) ^ q ≤ 1000000 := by
            rcases (by omega : q = 0 ∨ q = 1 ∨ q = 2 ∨ q = 3 ∨ q = 4 ∨ q = 5 ∨ q = 6) with e | e | e | e | e | e | e <;> subst e <;> decide
          obtain ⟨ρ2, p1, p2⟩ := likely_l (K2 := K2) (K10 := f_X12_laysLikely_w10 K2 n) (N := N) (P := lkM A g q) (M := 10 ^ q) (r := q) (μ := μ) k0 (by omega) e g0 g7 (by omega) (by omega) M6 (fun i i0 i1 => lkM_in hR q i i0 i1) (A 2).toNat 0 FU ρ hA (by omega) (by unfold FU; omega) j (fun i i0 i1 => h1 q i (by omega) i0 i1)
          refine ⟨ρ2, ?_, p2⟩
          rw [hu, hl]
          exact p1
    obtain ⟨ρ2, p1, p2⟩ := key
    have s3 : Sc125 ρ (ms ρ2 125 (7 * (r : Int) + k) (lkM A g r k)) := fun c i x1 x2 x3 => by rw [ms_nc x3, p2 c i x1 x2]
    obtain ⟨ρ', y1, y2, y3⟩ := ih n (k + 1) (ms ρ2 125 (7 * (r : Int) + k) (lkM A g r k)) (by rw [rowA_co (Sc125_sa s3)]; exact hA) (by omega) (by omega) (by omega) (JR_sa (SaC_rfl μ) (Sc125_sa s3) j).1 (by
      intro q i hq i0 i1
      rw [ms_ni (by omega), p2 125 _ (by decide) (by decide)]
      exact h1 q i hq i0 i1) (by
      intro i i0 i1
      by_cases e : i = k
      · rw [e, ms_eq]
      · rw [ms_ni (by omega), p2 125 _ (by decide) (by decide)]; exact h2 i i0 (by omega))
    refine ⟨ρ', ?_, Sc125_tr s3 y2, y3⟩
    rw [p1]
    unfold f_X12_laysLikely_j97
    rw [nrm_id (z := 7 * (r : Int) + k) (by omega) (by omega), gd_pos (by omega), nm_eq, show (111 + 14 : Int) = 125 from rfl]
    exact y1
theorem likely_r {g N : Int} {μ : Mem} {A : Int → Int} (g0 : 0 ≤ g) (g7 : g < 7) (N7 : N ≤ 7) :
    ∀ (d r n : Nat) (ρ : Mem), rowA ρ 0 = A → (r : Int) + d = N + 1 → d < n → JR μ 58 ρ → (∀ (q : Nat) (i : Int), q < r → 0 ≤ i → i < A 1 → ρ 125 (7 * (q : Int) + i) = lkM A g q i) → 0 ≤ N →
    ∃ ρ', f_X12_laysLikely_w2 n 111 g N r ρ = some (lkM A g N.toNat (A 55), ρ') ∧ Sc125 ρ ρ' ∧ (∀ (q : Nat) (i : Int), (q : Int) ≤ N → 0 ≤ i → i < A 1 → ρ' 125 (7 * (q : Int) + i) = lkM A g q i) := by
  intro d
  induction d with
  | zero =>
    intro r n ρ hA rd hn j h1 N0
    obtain ⟨n, rfl⟩ : ∃ q, n = q + 1 := ⟨n - 1, by omega⟩
    obtain ⟨_, _, _, _, _, ⟨K1, K7⟩, _, ⟨_, c2, c3⟩, _⟩ := now_is j
    have e55 : ρ 112 55 = A 55 := by rw [← hA, rowA_0]
    have e1 : ρ 112 1 = A 1 := by rw [← hA, rowA_0]
    refine ⟨ρ, ?_, fun _ _ _ _ _ => rfl, fun q i hq i0 i1 => h1 q i (by omega) i0 i1⟩
    have hv := h1 N.toNat (A 55) (by omega) (by omega) (by omega)
    rw [Int.toNat_of_nonneg N0] at hv
    rw [f_X12_laysLikely_w2, nrm_id (z := N) (by omega) (by omega), nrm_id (z := (r : Int)) (by omega) (by omega), if_pos (by omega), show (111 + 1 : Int) = 112 from rfl, e55, nrm_id (z := 7 * N + A 55) (by omega) (by omega), gd_pos (by omega), show (111 + 14 : Int) = 125 from rfl, hv]
  | succ d ih =>
    intro r n ρ hA rd hn j h1 N0
    obtain ⟨n, rfl⟩ : ∃ q, n = q + 1 := ⟨n - 1, by omega⟩
    obtain ⟨_, _, _, _, _, ⟨K1, K7⟩, _⟩ := now_is j
    have e1 : ρ 112 1 = A 1 := by rw [← hA, rowA_0]
    obtain ⟨ρ2, p1, p2, p3⟩ := likely_k (K2 := f_X12_laysLikely_w2 n) (N := N) (r := r) (μ := μ) g0 g7 (by omega) (A 1).toNat FU 0 ρ hA (by decide) (by omega) (by unfold FU; omega) j h1 (fun i _ i1 => absurd i1 (by omega))
    obtain ⟨ρ3, q1, q2, q3⟩ := ih (r + 1) n ρ2 (by rw [rowA_co (Sc125_sa p2)]; exact hA) (by omega) (by omega) (JR_sa (SaC_rfl μ) (Sc125_sa p2) j).1 p3 N0
    refine ⟨ρ3, ?_, Sc125_tr p2 q2, q3⟩
    rw [f_X12_laysLikely_w2, nrm_id (z := N) (by omega) (by omega), nrm_id (z := (r : Int)) (by omega) (by omega), if_neg (by omega), p1]
    rw [show ((r + 1 : Nat) : Int) = (r : Int) + 1 by omega] at q1
    exact q1
theorem laysLikely_eq {g N : Int} {μ ρ : Mem} (j : JR μ 58 ρ) (g0 : 0 ≤ g) (g7 : g < 7) (N0 : 0 ≤ N) (N7 : N ≤ 7) :
    ∃ ρ', f_X12_laysLikely 111 g N ρ = some (lkM (rowA ρ 0) g N.toNat (ρ 112 55), ρ') ∧ Sc125 ρ ρ' ∧ (∀ (q : Nat) (i : Int), (q : Int) ≤ N → 0 ≤ i → i < ρ 112 1 → ρ' 125 (7 * (q : Int) + i) = lkM (rowA ρ 0) g q i) := by
  obtain ⟨ρ2, p1, p2, p3⟩ := likely_r (A := rowA ρ 0) (μ := μ) g0 g7 N7 (N.toNat + 1) 0 FU ρ rfl (by omega) (by unfold FU; omega) j (fun q i hq => absurd hq (by omega)) N0
  rw [rowA_0] at p1 p3
  exact ⟨ρ2, p1, p2, p3⟩
/-- Euclid comes to an end. -/
def eucT : Nat → Int → Int → Prop
  | 0, _, b => b = 0
  | n + 1, a, b => b = 0 ∨ eucT n b (a % b)
theorem euc_le : ∀ (n : Nat) (a b : Int), 0 ≤ b → b ≤ a → a * b < 2 ^ n → eucT n a b
  | 0, a, b, b0, ba, h => by
    show b = 0
    apply Classical.byContradiction
    intro hb
    have : 1 ≤ a * b := by
      have := Int.mul_le_mul (a := 1) (b := 1) (c := a) (d := b) (by omega) (by omega) (by decide) (by omega)
      omega
    have e : (2 : Int) ^ 0 = 1 := rfl
    omega
  | n + 1, a, b, b0, ba, h => by
    by_cases hb : b = 0
    · exact .inl hb
    · refine .inr (euc_le n b (a % b) (Int.emod_nonneg a hb) (by have := Int.emod_lt_of_pos a (show 0 < b by omega); omega) ?_)
      have r1 := Int.emod_lt_of_pos a (show 0 < b by omega)
      have r0 := Int.emod_nonneg a hb
      have h2 : 2 * (a % b) ≤ a := by
        have hd := Int.mul_ediv_add_emod a b
        have q1 : 1 ≤ a / b := (Int.le_ediv_iff_mul_le (by omega)).mpr (by omega)
        have : b * 1 ≤ b * (a / b) := Int.mul_le_mul_of_nonneg_left q1 b0
        omega
      have h3 : b * (2 * (a % b)) ≤ b * a := Int.mul_le_mul_of_nonneg_left h2 b0
      have e : (2 : Int) ^ (n + 1) = 2 ^ n * 2 := Int.pow_succ 2 n
      have e2 : b * (2 * (a % b)) = 2 * (b * (a % b)) := by rw [← Int.mul_assoc, Int.mul_comm b 2, Int.mul_assoc]
      have e3 : b * a = a * b := Int.mul_comm b a
      omega
theorem euc_all {a b : Int} (a0 : 0 ≤ a) (b0 : 0 ≤ b) (ab : a ≤ b) (b7 : b ≤ 10000000) : eucT 48 a b := by
  by_cases hb : b = 0
  · exact .inl hb
  · by_cases e : a = b
    · refine euc_le 48 a b b0 (by omega) ?_
      have := Int.mul_le_mul (a := a) (b := b) (c := 10000000) (d := 10000000) (by omega) b7 b0 (by decide)
      have e48 : (2 : Int) ^ 48 = 281474976710656 := by decide
      omega
    · refine .inr ?_
      rw [Int.emod_eq_of_lt a0 (by omega)]
      refine euc_le 47 b a a0 ab ?_
      have := Int.mul_le_mul (a := b) (b := a) (c := 10000000) (d := 10000000) b7 (by omega) a0 (by decide)
      have e47 : (2 : Int) ^ 47 = 140737488355328 := by decide
      omega
theorem common_eq : ∀ (m : Nat) (a b : Int), eucT m a b → 0 ≤ a → a ≤ 10000000 → 0 ≤ b → b ≤ 10000000 → (1 ≤ a ∨ 1 ≤ b) → ∃ v, 1 ≤ v ∧ v ≤ 10000000 ∧
    (∀ (n : Nat) (i : Int) (μ : Mem), m < n → 0 ≤ i → i + m ≤ 60 → f_X5_commonOf_w7 n a b i μ = some (v, μ)) ∧ (∀ (n : Nat) (ρ : Mem), m < n → g_X12_common n 0 a b ρ = some (v, ρ))
  | 0, a, b, h, a0, a7, b0, b7, h1 => by
    have hb : b = 0 := h
    refine ⟨a, by omega, a7, ?_, ?_⟩
    · intro n i μ hn i0 im
      obtain ⟨n, rfl⟩ : ∃ q, n = q + 1 := ⟨n - 1, by omega⟩
      rw [f_X5_commonOf_w7, nrm_id (z := i) (by omega) (by omega), if_neg (by show ¬ ((64 : Int) ≤ i); omega), hb, if_pos (by decide : nrm 0 = 0)]
    · intro n ρ hn
      obtain ⟨n, rfl⟩ : ∃ q, n = q + 1 := ⟨n - 1, by omega⟩
      show b_X12_common (g_X12_common n) a b ρ = _
      unfold b_X12_common
      rw [hb, if_pos (by decide : nrm 0 = 0)]
  | m + 1, a, b, h, a0, a7, b0, b7, h1 => by
    by_cases hb : b = 0
    · refine ⟨a, by omega, a7, ?_, ?_⟩
      · intro n i μ hn i0 im
        obtain ⟨n, rfl⟩ : ∃ q, n = q + 1 := ⟨n - 1, by omega⟩
        rw [f_X5_commonOf_w7, nrm_id (z := i) (by omega) (by omega), if_neg (by show ¬ ((64 : Int) ≤ i); omega), hb, if_pos (by decide : nrm 0 = 0)]
      · intro n ρ hn
        obtain ⟨n, rfl⟩ : ∃ q, n = q + 1 := ⟨n - 1, by omega⟩
        show b_X12_common (g_X12_common n) a b ρ = _
        unfold b_X12_common
        rw [hb, if_pos (by decide : nrm 0 = 0)]
    · have h' : eucT m b (a % b) := by
        rcases h with q | q
        · exact absurd q hb
        · exact q
      have r1 := Int.emod_lt_of_pos a (show 0 < b by omega)
      have r0 := Int.emod_nonneg a hb
      obtain ⟨v, v1, v2, v3, v4⟩ := common_eq m b (a % b) h' b0 b7 r0 (by omega) (.inl (by omega))
      have hj : jrem a b = a % b := jrem_nn a0 (by omega) (by omega) (by omega)
      have hn0 : nrm b ≠ 0 := by rw [nrm_id (z := b) (by omega) (by omega)]; exact hb
      refine ⟨v, v1, v2, ?_, ?_⟩
      · intro n i μ hn i0 im
        obtain ⟨n, rfl⟩ : ∃ q, n = q + 1 := ⟨n - 1, by omega⟩
        rw [f_X5_commonOf_w7, nrm_id (z := i) (by omega) (by omega), if_neg (by show ¬ ((64 : Int) ≤ i); omega), if_neg hn0, gd_pos hn0, nm_eq, hj]
        exact v3 n (i + 1) μ (by omega) (by omega) (by omega)
      · intro n ρ hn
        obtain ⟨n, rfl⟩ : ∃ q, n = q + 1 := ⟨n - 1, by omega⟩
        show b_X12_common (g_X12_common n) a b ρ = _
        unfold b_X12_common
        rw [if_neg hn0, gd_pos hn0, hj, bn_eq (v4 n ρ (by omega))]
theorem above_eq {μ : Mem} {cL cB p : Int} (h : oddC μ cL cB) (p0 : 0 ≤ p) (p7 : p < 7) : f_X5_aboveAt 108 p μ = some (μ cL p, μ) := by
  unfold f_X5_aboveAt
  rw [nrm_id (z := p) (by omega) (by omega), if_neg (by omega), if_pos (by show p < 7; omega), h.1, gd_pos (oddC_k h).1, gd_pos ⟨p0, p7⟩]
theorem op_chance (a b c : Int) (ha : nrm a = a) (hb : nrm b = b) (hc : nrm c = c) : Op2 (f_X11_chance 0 a b c) (f_X12_chance 111 a b c) := by
  intro μ ρ h
  have h' := RR_co (SaC_rfl μ) (SaR_thrown ρ 0) h
  generalize hρ : ms ρ 111 0 0 = ρ1 at h'
  have j : JR μ 58 ρ1 := h'.2.2.1
  obtain ⟨hL, hR, _, ⟨L0, L9⟩, _, ⟨K1, K7⟩, hl, ⟨c1, c2, c3⟩, _⟩ := now_is j
  unfold f_X11_chance f_X12_chance
  rw [nm_eq, hρ, show (0 + 58 : Int) = 58 from rfl, show (0 + 108 : Int) = 108 from rfl, gd_pos (isL_k hL), bn_eq (hasPlace_eq hR ha), bn_eq (isPlace_eq K1 K7 ha), rowA_0, hc, hb, show nrm 1 = 1 from rfl, show nrm 7 = 7 from rfl]
  have wc : ∀ k : Int → Mem → Option (Int × Mem), bn (f_X12_within c 0 1 ρ1) k = k (if 0 ≤ c ∧ c ≤ 1 then 1 else 0) ρ1 := by
    intro k
    have := bn_within (μ := ρ1) (k := k) hc (rfl : nrm 0 = 0) (rfl : nrm 1 = 1)
    rwa [hc] at this
  have wb : ∀ k : Int → Mem → Option (Int × Mem), bn (f_X12_within b 0 7 ρ1) k = k (if 0 ≤ b ∧ b ≤ 7 then 1 else 0) ρ1 := by
    intro k
    have := bn_within (μ := ρ1) (k := k) hb (rfl : nrm 0 = 0) (rfl : nrm 7 = 7)
    rwa [hb] at this
  by_cases g : 0 ≤ a ∧ a < ρ1 112 1
  · rw [if_pos g, if_neg (by decide : ¬ nrm 1 = 0), if_neg (by decide : ¬ nrm 1 = 0), wc]
    by_cases q : 0 ≤ c ∧ c ≤ 1
    · rw [if_neg (by omega : ¬ c < 0), if_pos q.2, if_pos q, if_neg (by decide : ¬ nrm 1 = 0), wb]
      by_cases y : 0 ≤ b ∧ b ≤ 7
      · rw [if_neg (by omega : ¬ b < 0), if_pos y.2, if_pos y, if_neg (by decide : ¬ nrm 1 = 0)]
        obtain ⟨μ2, cL, cB, p1, p2, p3, p4, p5, p6, p7⟩ := weigh_eq j h'.2.1.2.2 g.1 g.2 y.1 y.2
        obtain ⟨ρ2, q1, q2, q3⟩ := laysLikely_eq j g.1 (by omega : a < 7) y.1 y.2
        have hRR := RR_odd p2 (Sc125_sa q2) p3 h'
        have e58 : μ2 58 1 = ρ1 112 55 := by rw [p2 58 1 (by unfold EssC; omega) (by decide)]; exact c1
        have li := lkM_in (g := a) hR b.toNat (ρ1 112 55) c2 (by rw [rowA_0]; exact c3)
        have p10 := pow10 (r := b.toNat) (by omega)
        obtain ⟨v, v1, v2, v3, v4⟩ := common_eq 48 (lkM (rowA ρ1 0) a b.toNat (ρ1 112 55)) (10 ^ b.toNat) (euc_all li.1 (by omega) li.2 p10.2) li.1 (by omega) (by omega) p10.2 (.inr p10.1)
        have hcm : f_X5_commonOf (lkM (rowA ρ1 0) a b.toNat (ρ1 112 55)) (10 ^ b.toNat) μ2 = some (v, μ2) := v3 FU 0 μ2 (by unfold FU; omega) (by decide) (by decide)
        have hcr : f_X12_common (lkM (rowA ρ1 0) a b.toNat (ρ1 112 55)) (10 ^ b.toNat) ρ2 = some (v, ρ2) := v4 64 ρ2 (by decide)
        have hv0 : nrm v ≠ 0 := by rw [nrm_id (z := v) (by omega) (by omega)]; omega
        unfold f_X5_belowAll f_X12_chance_j62
        rw [bn_eq p1, e58, bn_eq (above_eq p4 c2 (by omega)), p6 _ c2 c3, bn_eq rfl, p5, bn_eq hcm, nrm_id (z := v) (by omega) (by omega), if_pos v1, gd_pos (by omega : v ≠ 0), bn_eq q1, bn_eq (wholeOf_eq ρ2 y.1 y.2), bn_eq (wholeOf_eq ρ2 y.1 y.2), bn_eq hcr, gd_pos hv0]
        by_cases z : c = 0
        · rw [if_pos z, if_pos z]; simp only [wp_some]; exact ⟨trivial, hRR⟩
        · rw [if_neg z, if_neg z, gd_pos (by omega : v ≠ 0), bn_eq (wholeOf_eq ρ2 y.1 y.2), bn_eq hcr, gd_pos hv0]; simp only [wp_some]; exact ⟨trivial, hRR⟩
      · rw [if_neg y, if_pos (by decide : nrm 0 = 0)]
        by_cases b0 : b < 0
        · rw [if_pos b0]; simp only [wp_some]; exact ⟨trivial, h'⟩
        · rw [if_neg b0, if_neg (by omega)]; simp only [wp_some]; exact ⟨trivial, h'⟩
    · rw [if_neg q, if_pos (by decide : nrm 0 = 0)]
      by_cases b0 : c < 0
      · rw [if_pos b0]; simp only [wp_some]; exact ⟨trivial, h'⟩
      · rw [if_neg b0, if_neg (by omega)]; simp only [wp_some]; exact ⟨trivial, h'⟩
  · rw [if_neg g, if_pos (by decide : nrm 0 = 0), if_pos (by decide : nrm 0 = 0)]
    simp only [wp_some]
    exact ⟨trivial, h'⟩
