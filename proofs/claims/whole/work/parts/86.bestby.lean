theorem likeliest_w {g v cL cB : Int} {A P : Int → Int} {ρ : Mem} (hA : rowA ρ 0 = A) (v1 : 1 ≤ v) (v2 : v ≤ 10000000) (hPb : ∀ q, 0 ≤ q → q < A 1 → 0 ≤ P q ∧ P q ≤ 1000000) :
    ∀ (d n : Nat) (l : Int) (μ : Mem), 0 ≤ l → l + d = A 2 → d < n → JR μ 58 ρ → oddC μ cL cB → (∀ k, 0 ≤ k → k < A 1 → μ cB k = P k) →
    ∃ μ', f_X5_firstLikeliest_w27 n 108 58 v l μ = some (fsL (fun m => decide (lbM A P (A 55) m = v)) d l, μ') ∧ SaC μ μ' := by
  intro d
  induction d with
  | zero =>
    intro n l μ l0 ld hn j hO hB
    obtain ⟨n, rfl⟩ : ∃ q, n = q + 1 := ⟨n - 1, by omega⟩
    obtain ⟨hL, hR, _, ⟨L0, L9⟩, _, _, hl, _⟩ := now_is j
    have e2 : ρ 112 2 = A 2 := by rw [← hA, rowA_0]
    refine ⟨μ, ?_, SaC_rfl μ⟩
    rw [f_X5_firstLikeliest_w27, nrm_id (z := v) (by omega) (by omega), if_neg (by omega), gd_pos kk_58, gd_pos (isL_k hL), hl, nrm_id (z := ρ 112 2) (by omega) (by omega), nrm_id (z := l) (by omega) (by omega), if_pos (by omega)]
    rfl
  | succ d ih =>
    intro n l μ l0 ld hn j hO hB
    obtain ⟨n, rfl⟩ : ∃ q, n = q + 1 := ⟨n - 1, by omega⟩
    obtain ⟨hL, hR, _, ⟨L0, L9⟩, _, ⟨K1, K7⟩, hl, ⟨c1, c2, c3⟩, _⟩ := now_is j
    have e2 : ρ 112 2 = A 2 := by rw [← hA, rowA_0]
    have e1 : ρ 112 1 = A 1 := by rw [← hA, rowA_0]
    have e55 : ρ 112 55 = A 55 := by rw [← hA, rowA_0]
    have hLo := hL
    unfold isL at hLo
    obtain ⟨μ2, p1, p2⟩ := isOpen_all (l := l) j (nrm_id (by omega) (by omega))
    rw [if_pos (by omega : 0 ≤ l ∧ l < ρ 112 2), hA] at p1
    obtain ⟨j2, j3⟩ := JR_sa p2 (SaR_rfl ρ) j
    have hOc := hO.2.2
    have hfix : ∀ k, μ2 cB k = μ cB k ∧ μ2 cL k = μ cL k := by
      intro k
      obtain ⟨μx, x1, x2⟩ := isOpen_c kk_58 j l0 (by omega : l < ρ 112 2)
      have hop : mayM (rowA ρ 0) l (ρ 112 (56 + l)) (ρ 112 66) (ρ 112 65) = openM A l := by
        unfold openM
        rw [← hA, rowA_0, rowA_0, rowA_0]
      rw [p1] at x1
      injection x1 with x1
      injection x1 with _ x1
      subst x1
      exact ⟨x2 cB k (by omega) (by omega) (by omega), x2 cL k (by omega) (by omega) (by omega)⟩
    have hO2 : oddC μ2 cL cB := ⟨by rw [p2 108 0 (by unfold EssC; omega)]; exact hO.1, by rw [p2 108 1 (by unfold EssC; omega)]; exact hO.2.1, hOc⟩
    have hB2 : ∀ k, 0 ≤ k → k < A 1 → μ2 cB k = P k := fun k k0 k1 => by rw [(hfix k).1]; exact hB k k0 k1
    obtain ⟨hL2, hR2, _, _, _, _, hl2, _⟩ := now_is j2
    rw [hA] at hR hR2
    have ho := oeM_in (k := A 55) hR l0 (by omega)
    have o : openM A l = 0 ∨ openM A l = 1 := mayM_01 _ _ _ _ _
    have hoe := otherEnd_c hR l0 (by omega) (nrm_id (z := A 55) (by omega) (by omega))
    have next : ∃ μ', f_X5_firstLikeliest_w27 n 108 58 v (l + 1) μ2 = some (fsL (fun m => decide (lbM A P (A 55) m = v)) d (l + 1), μ') ∧ SaC μ μ' := by
      obtain ⟨μ', y1, y2⟩ := ih n (l + 1) μ2 (by omega) (by omega) (by omega) j2 hO2 hB2
      exact ⟨μ', y1, SaC_tr p2 y2⟩
    rw [f_X5_firstLikeliest_w27, nrm_id (z := v) (by omega) (by omega), if_neg (by omega), gd_pos kk_58, gd_pos (isL_k hL), hl, nrm_id (z := ρ 112 2) (by omega) (by omega), nrm_id (z := l) (by omega) (by omega), if_neg (by omega), c1, e55, bn_eq hoe, bn_eq p1, nrm_id (z := openM A l) (by omega) (by omega)]
    unfold fsL
    by_cases z : openM A l = 0
    · have hlb : lbM A P (A 55) l = -1 := by unfold lbM; rw [if_pos (.inr z)]
      rw [if_pos z, hlb, decide_eq_false (by omega), if_neg (by decide : ¬ false = true)]
      exact next
    · rw [if_neg z]
      by_cases y : oeM A l (A 55) = -1
      · have hlb : lbM A P (A 55) l = -1 := by unfold lbM; rw [if_pos (.inl y)]
        have ht : f_X5_throughTo 108 (μ2 58 0) l (-1) μ2 = some (0, μ2) := by
          unfold f_X5_throughTo
          rw [gd_pos (isL_k hL2), bn_eq (hasLane_eq hl2 L0 L9 (nrm_id (by omega) (by omega))), if_pos (by omega : 0 ≤ l ∧ l < ρ 112 2), if_neg (by decide : ¬ nrm 1 = 0), if_pos (by decide : nrm (-1) < 0)]
        rw [y, bn_eq ht, if_neg (by show ¬ (0 : Int) = v; omega), hlb, decide_eq_false (by omega), if_neg (by decide : ¬ false = true)]
        exact next
      · have hlb : lbM A P (A 55) l = (10 - A (38 + l)) * P (oeM A l (A 55)) := by unfold lbM; rw [if_neg (show ¬ (oeM A l (A 55) = -1 ∨ openM A l = 0) from fun q => q.elim y z)]
        have ht := through_eq hL2 hR2 hO2 l0 (by omega) (by omega : 0 ≤ oeM A l (A 55)) (by omega)
        rw [hB2 _ (by omega) (by omega), ← hlb] at ht
        have lb := lb_in (k := A 55) hR l0 (by omega) hPb
        rw [bn_eq ht, nrm_id (z := lbM A P (A 55) l) (by omega) (by omega)]
        by_cases x : lbM A P (A 55) l = v
        · rw [if_pos x, decide_eq_true x, if_pos rfl]
          exact ⟨μ2, rfl, p2⟩
        · rw [if_neg x, decide_eq_false x, if_neg (by decide : ¬ false = true)]
          exact next
theorem mx_ex {A P : Int → Int} {k : Int} : ∀ n : Nat, 0 < mxT A P k n → ∃ l : Int, 0 ≤ l ∧ l < n ∧ lbM A P k l = mxT A P k n
  | 0, h => by
    have : (0 : Int) < 0 := h
    omega
  | n + 1, h => by
    have hmx : mxT A P k (n + 1) = if mxT A P k n < lbM A P k n then lbM A P k n else mxT A P k n := rfl
    rw [hmx] at h ⊢
    by_cases z : mxT A P k n < lbM A P k n
    · rw [if_pos z]; exact ⟨n, by omega, by omega, rfl⟩
    · rw [if_neg z] at h ⊢
      obtain ⟨l, l0, l1, l2⟩ := mx_ex n h
      exact ⟨l, l0, by omega, l2⟩
theorem bestBy_w {r v : Int} {A P : Int → Int} {μ : Mem} (r1 : 1 ≤ r) (r7 : r ≤ 7) (v1 : 1 ≤ v) (v2 : v ≤ 10000000) (hPb : ∀ q, 0 ≤ q → q < A 1 → 0 ≤ P q ∧ P q ≤ 1000000) :
    ∀ (d n : Nat) (l : Int) (ρ : Mem), rowA ρ 0 = A → 0 ≤ l → l + d = A 2 → d < n → JR μ 58 ρ → (∀ q, 0 ≤ q → q < A 1 → ρ 125 (7 * (r - 1) + q) = P q) → fsL (fun m => decide (lbM A P (A 55) m = v)) d l ≠ -1 →
    ∃ ρ', f_X12_bestBy_w58 n 111 r v l ρ = some (fsL (fun m => decide (lbM A P (A 55) m = v)) d l, ρ') ∧ ScW ρ ρ' := by
  intro d
  induction d with
  | zero => intro n l ρ _ _ _ _ _ _ h; exact absurd rfl h
  | succ d ih =>
    intro n l ρ hA l0 ld hn j hP h
    obtain ⟨n, rfl⟩ : ∃ q, n = q + 1 := ⟨n - 1, by omega⟩
    obtain ⟨_, hR, _, ⟨L0, L9⟩, _, ⟨K1, K7⟩, _, ⟨_, c2, c3⟩, _⟩ := now_is j
    have e55 : ρ 112 55 = A 55 := by rw [← hA, rowA_0]
    have e2 : ρ 112 2 = A 2 := by rw [← hA, rowA_0]
    obtain ⟨ρ2, p1, p2⟩ := likelyBy_eq (P := P) (k := A 55) j hA l0 (by omega) (by omega) (by omega) r1 r7 hP
    rw [hA] at hR
    have lb := lb_in (k := A 55) hR l0 (by omega) hPb
    unfold fsL at h ⊢
    rw [f_X12_bestBy_w58, show (111 + 1 : Int) = 112 from rfl, e55, bn_eq p1, nrm_id (z := lbM A P (A 55) l) (by omega) (by omega), nrm_id (z := v) (by omega) (by omega)]
    by_cases x : lbM A P (A 55) l = v
    · rw [if_pos x, decide_eq_true x, if_pos rfl]; exact ⟨ρ2, rfl, p2⟩
    · rw [decide_eq_false x, if_neg (by decide : ¬ false = true)] at h ⊢
      rw [if_neg x]
      obtain ⟨ρ', y1, y2⟩ := ih n (l + 1) ρ2 (by rw [rowA_co (ScW_sa p2)]; exact hA) (by omega) (by omega) (by omega) (JR_sa (SaC_rfl μ) (ScW_sa p2) j).1 (fun q q0 q1 => by rw [p2 125 _ (by decide) (by decide)]; exact hP q q0 q1) h
      exact ⟨ρ', y1, ScW_tr p2 y2⟩
theorem op_bestBy (a b : Int) (ha : nrm a = a) (hb : nrm b = b) : Op2 (f_X11_bestBy 0 a b) (f_X12_bestBy 111 a b) := by
  intro μ ρ h
  have h' := RR_co (SaC_rfl μ) (SaR_thrown ρ 0) h
  generalize hρ : ms ρ 111 0 0 = ρ1 at h'
  have j : JR μ 58 ρ1 := h'.2.2.1
  obtain ⟨hL, hR, _, ⟨L0, L9⟩, _, ⟨K1, K7⟩, hl, ⟨c1, c2, c3⟩, _⟩ := now_is j
  unfold f_X11_bestBy f_X12_bestBy
  rw [nm_eq, hρ, show (0 + 58 : Int) = 58 from rfl, show (0 + 108 : Int) = 108 from rfl, gd_pos (isL_k hL), bn_eq (hasPlace_eq hR ha), bn_eq (isPlace_eq K1 K7 ha), rowA_0, bn_within hb rfl rfl, hb, show nrm 7 = 7 from rfl, c1, ha, nrm_id (z := ρ1 112 55) (by omega) (by omega)]
  by_cases g : 0 ≤ a ∧ a < ρ1 112 1
  · rw [if_pos g, if_neg (by decide : ¬ nrm 1 = 0), if_neg (by decide : ¬ nrm 1 = 0)]
    by_cases y : 0 ≤ b ∧ b ≤ 7
    · rw [if_neg (by omega : ¬ b < 0), if_pos y.2, if_pos y, if_neg (by decide : ¬ nrm 1 = 0)]
      obtain ⟨ρ2, q1, q2, q3⟩ := laysLikely_eq j g.1 (by omega : a < 7) y.1 y.2
      have e55 : ρ2 112 55 = ρ1 112 55 := q2 112 55 (by decide) (by decide) (by decide)
      have li := lkM_in (g := a) hR b.toNat (ρ1 112 55) c2 (by rw [rowA_0]; exact c3)
      have p10 := pow10 (r := b.toNat) (by omega)
      rw [bn_eq q1, nrm_id (z := lkM (rowA ρ1 0) a b.toNat (ρ1 112 55)) (by omega) (by omega), show (111 + 1 : Int) = 112 from rfl, e55, nrm_id (z := ρ1 112 55) (by omega) (by omega)]
      have hR2 := RR_co (SaC_rfl μ) (Sc125_sa q2) h'
      by_cases e : ρ1 112 55 = a
      · rw [if_pos e]
        by_cases z : lkM (rowA ρ1 0) a b.toNat (ρ1 112 55) = 0
        · rw [if_pos z]; simp only [wp_some]; exact ⟨trivial, hR2⟩
        · rw [if_neg z, if_pos e.symm]; simp only [wp_some]; exact ⟨trivial, hR2⟩
      · rw [if_neg e, if_neg (show ¬ a = ρ1 112 55 from fun q => e q.symm)]
        unfold f_X5_firstLikeliest
        rw [hb, show nrm 1 = 1 from rfl]
        by_cases b1 : 1 ≤ b
        · rw [if_pos b1]
          obtain ⟨μ2, cL, cB, p1, p2, p3, p4, p5, p6, p7⟩ := weigh_eq j h'.2.1.2.2 g.1 g.2 y.1 y.2
          obtain ⟨j2, _⟩ := JR_so p2 j
          have e58 : μ2 58 1 = ρ1 112 55 := by rw [p2 58 1 (by unfold EssC; omega) (by decide)]; exact c1
          obtain ⟨q, hq⟩ : ∃ q, b.toNat = q + 1 := ⟨b.toNat - 1, by omega⟩
          have M6 : (10 : Int) ^ q ≤ 1000000 := by
            rcases (by omega : q = 0 ∨ q = 1 ∨ q = 2 ∨ q = 3 ∨ q = 4 ∨ q = 5 ∨ q = 6) with e | e | e | e | e | e | e <;> subst e <;> decide
          have hPb : ∀ i, 0 ≤ i → i < rowA ρ1 0 1 → 0 ≤ lkM (rowA ρ1 0) a q i ∧ lkM (rowA ρ1 0) a q i ≤ 1000000 := by
            intro i i0 i1
            have := lkM_in (g := a) hR q i i0 i1
            omega
          have hlk : lkM (rowA ρ1 0) a b.toNat (ρ1 112 55) = mxT (rowA ρ1 0) (lkM (rowA ρ1 0) a q) (ρ1 112 55) (rowA ρ1 0 2).toNat := by
            rw [hq]
            show (if ρ1 112 55 = a then 10 ^ (q + 1) else _) = _
            rw [if_neg e]
          rw [bn_eq p1, gd_pos kk_58, e58, bn_eq (above_eq p4 c2 (by omega)), p6 _ c2 c3]
          by_cases z : lkM (rowA ρ1 0) a b.toNat (ρ1 112 55) = 0
          · have hw : f_X5_firstLikeliest_w27 FU 108 58 (lkM (rowA ρ1 0) a b.toNat (ρ1 112 55)) 0 μ2 = some (-1, μ2) := by
              show f_X5_firstLikeliest_w27 (9999 + 1) 108 58 _ 0 μ2 = _
              rw [f_X5_firstLikeliest_w27, z, if_pos (by decide : nrm 0 ≤ 0)]
            rw [bn_eq hw, if_pos z]
            simp only [wp_some]
            exact ⟨trivial, RR_odd p2 (Sc125_sa q2) p3 h'⟩
          · rw [if_neg z]
            have hv1 : 1 ≤ lkM (rowA ρ1 0) a b.toNat (ρ1 112 55) := by omega
            have ex : fsL (fun m => decide (lbM (rowA ρ1 0) (lkM (rowA ρ1 0) a q) (rowA ρ1 0 55) m = lkM (rowA ρ1 0) a b.toNat (ρ1 112 55))) (rowA ρ1 0 2).toNat 0 ≠ -1 := by
              have hpos := hv1
              rw [hlk] at hpos
              obtain ⟨l, l0, l1, l2⟩ := mx_ex (rowA ρ1 0 2).toNat (by omega : 0 < mxT (rowA ρ1 0) (lkM (rowA ρ1 0) a q) (ρ1 112 55) (rowA ρ1 0 2).toNat)
              refine fsL_no _ 0 l (by decide) l0 (by omega) ?_
              rw [hlk, rowA_0 ρ1 55]
              exact decide_eq_true l2
            obtain ⟨μ3, x1, x2⟩ := likeliest_w (g := a) (A := rowA ρ1 0) (P := lkM (rowA ρ1 0) a q) rfl hv1 (by omega) hPb (rowA ρ1 0 2).toNat FU 0 μ2 (by decide) (by rw [rowA_0]; omega) (by rw [rowA_0]; unfold FU; omega) j2 p4 (by rw [rowA_0]; exact p7 q hq)
            have eA : rowA ρ2 0 = rowA ρ1 0 := rowA_co (Sc125_sa q2) 0
            obtain ⟨ρ3, z1, z2⟩ := bestBy_w (r := b) (A := rowA ρ1 0) (P := lkM (rowA ρ1 0) a q) (μ := μ) b1 y.2 hv1 (by omega) hPb (rowA ρ1 0 2).toNat FU 0 ρ2 eA (by decide) (by rw [rowA_0]; omega) (by rw [rowA_0]; unfold FU; omega) (JR_sa (SaC_rfl μ) (Sc125_sa q2) j).1 (by
              intro i i0 i1
              rw [rowA_0] at i1
              have := q3 q i (by omega) i0 i1
              rw [show (q : Int) = b - 1 by omega] at this
              exact this) ex
            rw [bn_eq x1, z1]
            simp only [wp_some]
            refine ⟨trivial, RR_odd (SaO_tr p2 (SaO_of x2)) (SaR_tr (Sc125_sa q2) (ScW_sa z2)) ?_ h'⟩
            rcases p3 with ⟨o1, o2⟩ | ⟨o1, o2⟩
            · exact .inl ⟨by rw [x2 108 0 (by unfold EssC; omega)]; exact o1, by rw [x2 108 1 (by unfold EssC; omega)]; exact o2⟩
            · exact .inr ⟨by rw [x2 108 0 (by unfold EssC; omega)]; exact o1, by rw [x2 108 1 (by unfold EssC; omega)]; exact o2⟩
        · rw [if_neg b1, bn_eq rfl]
          have hb0 : b = 0 := by omega
          have z : lkM (rowA ρ1 0) a b.toNat (ρ1 112 55) = 0 := by
            rw [hb0]
            show (if ρ1 112 55 = a then (1 : Int) else 0) = 0
            rw [if_neg e]
          rw [if_pos z]
          simp only [wp_some]
          exact ⟨trivial, hR2⟩
    · rw [if_neg y, if_pos (by decide : nrm 0 = 0)]
      by_cases b0 : b < 0
      · rw [if_pos b0]; simp only [wp_some]; exact ⟨trivial, h'⟩
      · rw [if_neg b0, if_neg (by omega)]; simp only [wp_some]; exact ⟨trivial, h'⟩
  · rw [if_neg g, if_pos (by decide : nrm 0 = 0), if_pos (by decide : nrm 0 = 0)]
    simp only [wp_some]
    exact ⟨trivial, h'⟩
