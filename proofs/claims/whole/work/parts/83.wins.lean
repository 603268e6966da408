def MI (A : Int → Int) (ρ : Mem) : Prop := ∀ k g, 0 ≤ k → k < 7 → 0 ≤ g → g < 512 → ρ 124 (512 * k + g) = 0 ∨ (ρ 124 (512 * k + g) = 1 ∧ ρ 123 (512 * k + g) = b2i (WG A k g))
def ScG (ρ ρ' : Mem) : Prop := ∀ c i, c ≠ 116 → c ≠ 117 → c ≠ 123 → c ≠ 124 → ρ' c i = ρ c i
theorem ScG_rf {a : Mem} : ScG a a := fun _ _ _ _ _ _ => rfl
theorem ScG_tr {a b c : Mem} (h : ScG a b) (k : ScG b c) : ScG a c := fun x i e1 e2 e3 e4 => (k x i e1 e2 e3 e4).trans (h x i e1 e2 e3 e4)
theorem ScG_sa {ρ ρ' : Mem} (h : ScG ρ ρ') : SaR ρ ρ' := by
  intro c i e
  unfold EssR at e
  exact h c i (by omega) (by omega) (by omega) (by omega)
theorem MI_co {A : Int → Int} {ρ ρ' : Mem} (h : ScW ρ ρ') (m : MI A ρ) : MI A ρ' := by
  intro k g k0 k7 g0 g1
  rw [h 124 _ (by decide) (by decide), h 123 _ (by decide) (by decide)]
  exact m k g k0 k7 g0 g1
theorem memo_l {A : Int → Int} {μ : Mem} {k gone : Int} {rec : Nat → Int → Int → Int → Int → Mem → Option (Int × Mem)} (k0 : 0 ≤ k) (k7 : k < 7) (g0 : 0 ≤ gone) (g1 : gone < 512)
    (hBy : ∀ l ρ, 0 ≤ l → l < A 2 → rowA ρ 0 = A → JR μ 58 ρ → MI A ρ → ∃ ρ', rec 1 111 l k gone ρ = some (b2i (BG A k gone l), ρ') ∧ MI A ρ' ∧ ScG ρ ρ') :
    ∀ (d n : Nat) (l : Int) (ρ : Mem), 0 ≤ l → l + d = A 2 → d < n → rowA ρ 0 = A → JR μ 58 ρ → MI A ρ →
    ∃ ρ', f_X12_winsAt_w30 rec n 111 k gone (512 * k + gone) 0 l ρ = f_X12_winsAt_j62 rec 111 (512 * k + gone) (b2i (decide (fsL (BG A k gone) d l ≠ -1))) ρ' ∧ MI A ρ' ∧ ScG ρ ρ' ∧ JR μ 58 ρ' := by
  intro d
  induction d with
  | zero =>
    intro n l ρ l0 ld hn hA j hM
    obtain ⟨n, rfl⟩ : ∃ q, n = q + 1 := ⟨n - 1, by omega⟩
    obtain ⟨_, _, _, ⟨L0, L9⟩, _⟩ := now_is j
    have e2 : ρ 112 2 = A 2 := by rw [← hA, rowA_0]
    refine ⟨ρ, ?_, hM, ScG_rf, j⟩
    rw [f_X12_winsAt_w30, show (111 + 1 : Int) = 112 from rfl, nrm_id (z := ρ 112 2) (by omega) (by omega), nrm_id (z := l) (by omega) (by omega), if_pos (by omega)]
    rfl
  | succ d ih =>
    intro n l ρ l0 ld hn hA j hM
    obtain ⟨n, rfl⟩ : ∃ q, n = q + 1 := ⟨n - 1, by omega⟩
    obtain ⟨_, _, _, ⟨L0, L9⟩, _⟩ := now_is j
    have e2 : ρ 112 2 = A 2 := by rw [← hA, rowA_0]
    obtain ⟨ρ2, p1, p2, p3⟩ := hBy l ρ l0 (by omega) hA j hM
    have hA2 : rowA ρ2 0 = A := by rw [rowA_co (ScG_sa p3)]; exact hA
    obtain ⟨j2, _⟩ := JR_sa (SaC_rfl μ) (ScG_sa p3) j
    have e22 : ρ2 112 2 = A 2 := by rw [← hA2, rowA_0]
    have hu : f_X12_winsAt_w30 rec (n + 1) 111 k gone (512 * k + gone) 0 l ρ = f_X12_winsAt_w30 rec n 111 k gone (512 * k + gone) (b2i (BG A k gone l)) (l + 1) ρ2 := by
      rw [f_X12_winsAt_w30, show (111 + 1 : Int) = 112 from rfl, nrm_id (z := ρ 112 2) (by omega) (by omega), nrm_id (z := l) (by omega) (by omega), if_neg (by omega), if_pos (by decide : nrm 0 = 0), bn_eq p1]
    rw [hu]
    unfold fsL
    cases q : BG A k gone l
    · obtain ⟨ρ', y1, y2, y3, y4⟩ := ih n (l + 1) ρ2 (by omega) (by omega) (by omega) hA2 j2 p2
      exact ⟨ρ', y1, y2, ScG_tr p3 y3, y4⟩
    · obtain ⟨n, rfl⟩ : ∃ q, n = q + 1 := ⟨n - 1, by omega⟩
      refine ⟨ρ2, ?_, p2, p3, j2⟩
      rw [if_pos rfl, decide_eq_true (show l ≠ -1 by omega), f_X12_winsAt_w30, show b2i true = 1 from rfl, if_neg (by decide : ¬ nrm 1 = 0)]
      split <;> rfl
theorem memo {A : Int → Int} {μ : Mem} : ∀ (m : Nat) (gone : Int), 0 ≤ gone → gone < 512 → 10 - boM gone ≤ m →
    (∀ n, 2 * m + 2 ≤ n → ∀ k ρ, 0 ≤ k → k < 7 → rowA ρ 0 = A → JR μ 58 ρ → MI A ρ → ∃ ρ', g_X12_winsAt n 0 111 k gone 0 ρ = some (b2i (WG A k gone), ρ') ∧ MI A ρ' ∧ ScG ρ ρ') ∧
    (∀ n, 2 * m + 1 ≤ n → ∀ l k ρ, 0 ≤ l → l < A 2 → 0 ≤ k → k < 7 → rowA ρ 0 = A → JR μ 58 ρ → MI A ρ → ∃ ρ', g_X12_winsAt n 1 111 l k gone ρ = some (b2i (BG A k gone l), ρ') ∧ MI A ρ' ∧ ScG ρ ρ') := by
  intro m
  induction m with
  | zero =>
    intro gone g0 g1 gb
    have := (bits_eq g0 g1).2.2
    omega
  | succ m ih =>
    intro gone g0 g1 gb
    have by1 : ∀ n, 2 * (m + 1) + 1 ≤ n → ∀ l k ρ, 0 ≤ l → l < A 2 → 0 ≤ k → k < 7 → rowA ρ 0 = A → JR μ 58 ρ → MI A ρ → ∃ ρ', g_X12_winsAt n 1 111 l k gone ρ = some (b2i (BG A k gone l), ρ') ∧ MI A ρ' ∧ ScG ρ ρ' := by
      intro n hn l k ρ l0 l1 k0 k7 hA j hM
      obtain ⟨n, rfl⟩ : ∃ q, n = q + 1 := ⟨n - 1, by omega⟩
      obtain ⟨_, hR, _, ⟨L0, L9⟩, _, ⟨K1, K7⟩, _⟩ := now_is j
      have e2 : ρ 112 2 = A 2 := by rw [← hA, rowA_0]
      have e1 : ρ 112 1 = A 1 := by rw [← hA, rowA_0]
      have ho := oeM_in (k := k) hR l0 (by rw [hA]; exact l1)
      rw [hA] at ho
      have oe := otherEnd_m hR l0 (by omega : l < ρ 112 2) (nrm_id (z := k) (by omega) (by omega))
      rw [hA] at oe
      have hop : mayM (rowA ρ 0) l (ρ 112 (56 + l)) (ρ 112 66) (ρ 112 65) = openM A l := by
        unfold openM
        rw [← hA, rowA_0, rowA_0, rowA_0]
      obtain ⟨ρ2, p1, p2⟩ := isOpen_m j l0 (by omega : l < ρ 112 2)
      rw [hop] at p1
      have hu : g_X12_winsAt (n + 1) 1 111 l k gone ρ = b_X12_winsBy (g_X12_winsAt n) 111 l k gone ρ := rfl
      rw [hu]
      unfold b_X12_winsBy
      rw [bn_eq oe, nrm_id (z := oeM A l k) (by omega) (by omega), show nrm (-1) = -1 from rfl, nrm_id (z := gone) (by omega) (by omega), bn_eq (isIn_eq ρ g0 (by omega) l0 (by omega)), bn_eq p1]
      unfold BG
      by_cases z1 : oeM A l k = -1
      · rw [if_pos z1, decide_eq_false (fun q => q.1 z1)]; exact ⟨ρ, rfl, hM, ScG_rf⟩
      · rw [if_neg z1]
        by_cases z2 : tb gone l = true
        · rw [if_pos z2, if_neg (by decide : ¬ nrm 1 = 0), decide_eq_false (fun q => by rw [z2] at q; exact absurd q.2.1 (by decide))]; exact ⟨ρ, rfl, hM, ScG_rf⟩
        · have z2' : tb gone l = false := by rw [Bool.not_eq_true] at z2; exact z2
          rw [if_neg z2, if_pos (by decide : nrm 0 = 0)]
          have s2 : ScG ρ ρ2 := fun c i x1 x2 _ _ => p2 c i x1 x2
          have o : openM A l = 0 ∨ openM A l = 1 := mayM_01 _ _ _ _ _
          by_cases z3 : openM A l = 1
          · obtain ⟨b1, _, b3⟩ := bo_or g0 g1 l0 (by omega) z2'
            obtain ⟨ρ3, q1, q2, q3⟩ := (ih (jor gone (jshl 1 l)) b1.1 b1.2 (by omega)).1 n (by omega) (oeM A l k) ρ2 (by omega) (by omega) (by rw [rowA_co (ScW_sa p2)]; exact hA) (JR_sa (SaC_rfl μ) (ScW_sa p2) j).1 (MI_co p2 hM)
            rw [z3, if_neg (by decide : ¬ nrm 1 = 0), bn_eq q1]
            refine ⟨ρ3, ?_, q2, ScG_tr s2 q3⟩
            cases w : WG A (oeM A l k) (jor gone (jshl 1 l))
            · rw [decide_eq_true ⟨z1, z2', rfl, rfl⟩]; rfl
            · rw [decide_eq_false (fun q => absurd q.2.2.2 (by decide))]; rfl
          · have z3' : openM A l = 0 := by omega
            rw [z3', if_pos (by decide : nrm 0 = 0), decide_eq_false (fun q => absurd q.2.2.1 (by decide))]
            exact ⟨ρ2, rfl, MI_co p2 hM, s2⟩
    refine ⟨?_, by1⟩
    intro n hn k ρ k0 k7 hA j hM
    obtain ⟨n, rfl⟩ : ∃ q, n = q + 1 := ⟨n - 1, by omega⟩
    obtain ⟨_, hR, _, ⟨L0, L9⟩, _⟩ := now_is j
    have e2 : ρ 112 2 = A 2 := by rw [← hA, rowA_0]
    have hu : g_X12_winsAt (n + 1) 0 111 k gone 0 ρ = b_X12_winsAt (g_X12_winsAt n) 111 k gone ρ := rfl
    rw [hu]
    unfold b_X12_winsAt
    rw [nm_eq, nrm_id (z := 512 * k + gone) (by omega) (by omega), gd_pos (by omega), show (111 + 13 : Int) = 124 from rfl, show (111 + 12 : Int) = 123 from rfl]
    rcases hM k gone k0 k7 g0 g1 with z | ⟨z1, z2⟩
    · rw [z, if_pos (by decide : nrm 0 = 0)]
      obtain ⟨ρ2, q1, q2, q3, q4⟩ := memo_l (rec := g_X12_winsAt n) (A := A) (μ := μ) k0 k7 g0 g1 (fun l ρ l0 l1 hA j hM => by1 n (by omega) l k ρ l0 l1 k0 k7 hA j hM) (A 2).toNat FU 0 ρ (by decide) (by omega) (by unfold FU; omega) hA j hM
      rw [← WG_rec (by omega) g0 g1] at q1
      rw [q1]
      unfold f_X12_winsAt_j62
      have hb : isB (b2i (WG A k gone)) := by cases WG A k gone <;> decide
      rw [nrm_id (z := 512 * k + gone) (by omega) (by omega), gd_pos (by omega), nm_eq, gd_pos (by omega), gd_pos hb, nm_eq, gd_pos hb]
      refine ⟨_, rfl, ?_, ?_⟩
      · intro k' g' k0' k7' g0' g1'
        simp only [show (111 + 13 : Int) = 124 from rfl, show (111 + 12 : Int) = 123 from rfl]
        by_cases e : 512 * k' + g' = 512 * k + gone
        · have ek : k' = k := by omega
          have eg : g' = gone := by omega
          subst ek; subst eg
          refine .inr ⟨?_, ms_eq _ _ _ _⟩
          rw [ms_nc (by decide), ms_eq]
        · rw [ms_nc (by decide), ms_ni e, ms_ni e, ms_nc (by decide)]
          exact q2 k' g' k0' k7' g0' g1'
      · intro c i x1 x2 x3 x4
        simp only [show (111 + 13 : Int) = 124 from rfl, show (111 + 12 : Int) = 123 from rfl]
        rw [ms_nc x3, ms_nc x4, q3 c i x1 x2 x3 x4]
    · have hb : isB (b2i (WG A k gone)) := by cases WG A k gone <;> decide
      rw [z1, if_neg (by decide : ¬ nrm 1 = 0), z2, gd_pos (by omega), gd_pos hb]
      exact ⟨ρ, rfl, hM, ScG_rf⟩
theorem forgets_w : ∀ (d k n : Nat) (ρ : Mem), k + d = 3584 → d < n → f_X12_forgets_w2 n 111 k ρ = some (0, flm ρ 124 k 3584 0) := by
  intro d
  induction d with
  | zero =>
    intro k n ρ hk hn
    obtain ⟨n, rfl⟩ : ∃ q, n = q + 1 := ⟨n - 1, by omega⟩
    rw [f_X12_forgets_w2, nrm_id (z := (k : Int)) (by omega) (by omega), if_pos (by show (3584 : Int) ≤ k; omega), flm_nil (by omega)]
  | succ d ih =>
    intro k n ρ hk hn
    obtain ⟨n, rfl⟩ : ∃ q, n = q + 1 := ⟨n - 1, by omega⟩
    rw [f_X12_forgets_w2, nrm_id (z := (k : Int)) (by omega) (by omega), if_neg (by show ¬ ((3584 : Int) ≤ k); omega), gd_pos (by omega), nm_eq, show (111 + 13 : Int) = 124 from rfl]
    have := ih (k + 1) n (ms ρ 124 k 0) (by omega) (by omega)
    rw [show ((k + 1 : Nat) : Int) = (k : Int) + 1 by omega, flm_step (by omega)] at this
    exact this
theorem forgets_eq {A : Int → Int} (ρ : Mem) : f_X12_forgets 111 ρ = some (0, flm ρ 124 0 3584 0) ∧ ScG ρ (flm ρ 124 0 3584 0) ∧ MI A (flm ρ 124 0 3584 0) := by
  refine ⟨forgets_w 3584 0 FU ρ (by omega) (by unfold FU; omega), fun c i _ _ _ h => flm_nc h, ?_⟩
  intro k g k0 k7 g0 g1
  exact .inl (flm_in (by omega) (by omega))
theorem op_wins : Op2 (f_X11_wins 0) (f_X12_wins 111) := by
  intro μ ρ h
  have h' := RR_co (SaC_rfl μ) (SaR_thrown ρ 0) h
  generalize hρ : ms ρ 111 0 0 = ρ1 at h'
  have j : JR μ 58 ρ1 := h'.2.2.1
  obtain ⟨hL, hR, _, ⟨L0, L9⟩, _, ⟨K1, K7⟩, hl, ⟨c1, c2, c3⟩, _⟩ := now_is j
  obtain ⟨μ2, p1, p2⟩ := firstWinning_eq j
  obtain ⟨f1, f2, f3⟩ := forgets_eq (A := rowA ρ1 0) ρ1
  have jf := (JR_sa (SaC_rfl μ) (ScG_sa f2) j).1
  obtain ⟨ρ2, q1, q2, q3⟩ := (memo (A := rowA ρ1 0) (μ := μ) 10 0 (by decide) (by decide) (by decide)).1 64 (by decide) (ρ1 112 55) (flm ρ1 124 0 3584 0) c2 (by omega) (rowA_co (ScG_sa f2) 0) jf f3
  unfold f_X11_wins f_X12_wins f_X12_winsAt
  rw [nm_eq, hρ, show (0 + 58 : Int) = 58 from rfl, show (0 + 106 : Int) = 106 from rfl, bn_eq p1, bn_eq f1, show (111 + 1 : Int) = 112 from rfl, flm_nc (by decide), bn_eq q1]
  have hRR := RR_co p2 (SaR_tr (ScG_sa f2) (ScG_sa q3)) h'
  have hw := WG_rec (A := rowA ρ1 0) (k := ρ1 112 55) (gone := 0) (by rw [rowA_0]; exact L9) (by decide) (by decide)
  rw [rowA_0] at hw
  have fi := fsL_in (f := BG (rowA ρ1 0) (ρ1 112 55) 0) (ρ1 112 2).toNat 0
  rw [nrm_id (z := fsL (BG (rowA ρ1 0) (ρ1 112 55) 0) (ρ1 112 2).toNat 0) (by omega) (by omega), show nrm (-1) = -1 from rfl, hw]
  by_cases e : fsL (BG (rowA ρ1 0) (ρ1 112 55) 0) (ρ1 112 2).toNat 0 = -1
  · rw [if_pos e, decide_eq_false (fun q => q e), if_pos (by decide : nrm (b2i false) = 0)]
    simp only [wp_some]; exact ⟨trivial, hRR⟩
  · rw [if_neg e, decide_eq_true e, if_neg (by decide : ¬ nrm (b2i true) = 0)]
    simp only [wp_some]; exact ⟨trivial, hRR⟩
theorem best_w {A : Int → Int} {μ : Mem} : ∀ (d n : Nat) (l : Int) (ρ : Mem), 0 ≤ l → l + d = A 2 → d < n → rowA ρ 0 = A → JR μ 58 ρ → MI A ρ → ∃ ρ', f_X12_best_w11 n 111 l ρ = some (fsL (BG A (A 55) 0) d l, ρ') ∧ ScG ρ ρ' := by
  intro d
  induction d with
  | zero =>
    intro n l ρ l0 ld hn hA j hM
    obtain ⟨n, rfl⟩ : ∃ q, n = q + 1 := ⟨n - 1, by omega⟩
    obtain ⟨_, _, _, ⟨L0, L9⟩, _⟩ := now_is j
    have e2 : ρ 112 2 = A 2 := by rw [← hA, rowA_0]
    refine ⟨ρ, ?_, ScG_rf⟩
    rw [f_X12_best_w11, show (111 + 1 : Int) = 112 from rfl, nrm_id (z := ρ 112 2) (by omega) (by omega), nrm_id (z := l) (by omega) (by omega), if_pos (by omega)]
    rfl
  | succ d ih =>
    intro n l ρ l0 ld hn hA j hM
    obtain ⟨n, rfl⟩ : ∃ q, n = q + 1 := ⟨n - 1, by omega⟩
    obtain ⟨_, _, _, ⟨L0, L9⟩, _, ⟨K1, K7⟩, _, ⟨_, c2, c3⟩, _⟩ := now_is j
    have e2 : ρ 112 2 = A 2 := by rw [← hA, rowA_0]
    have e55 : ρ 112 55 = A 55 := by rw [← hA, rowA_0]
    obtain ⟨ρ2, q1, q2, q3⟩ := (memo (A := A) (μ := μ) 10 0 (by decide) (by decide) (by decide)).2 64 (by decide) l (A 55) ρ l0 (by omega) (by omega) (by omega) hA j hM
    unfold fsL f_X12_best_w11 f_X12_winsBy
    rw [show (111 + 1 : Int) = 112 from rfl, nrm_id (z := ρ 112 2) (by omega) (by omega), nrm_id (z := l) (by omega) (by omega), if_neg (by omega), e55, bn_eq q1]
    cases q : BG A (A 55) 0 l
    · obtain ⟨ρ', y1, y2⟩ := ih n (l + 1) ρ2 (by omega) (by omega) (by omega) (by rw [rowA_co (ScG_sa q3)]; exact hA) (JR_sa (SaC_rfl μ) (ScG_sa q3) j).1 q2
      exact ⟨ρ', y1, ScG_tr q3 y2⟩
    · exact ⟨ρ2, rfl, q3⟩
theorem op_best : Op2 (f_X11_best 0) (f_X12_best 111) := by
  intro μ ρ h
  have h' := RR_co (SaC_rfl μ) (SaR_thrown ρ 0) h
  generalize hρ : ms ρ 111 0 0 = ρ1 at h'
  have j : JR μ 58 ρ1 := h'.2.2.1
  obtain ⟨hL, hR, _, ⟨L0, L9⟩, _, ⟨K1, K7⟩, hl, ⟨c1, c2, c3⟩, _⟩ := now_is j
  obtain ⟨μ2, p1, p2⟩ := firstWinning_eq j
  obtain ⟨f1, f2, f3⟩ := forgets_eq (A := rowA ρ1 0) ρ1
  have jf := (JR_sa (SaC_rfl μ) (ScG_sa f2) j).1
  obtain ⟨ρ2, q1, q2⟩ := best_w (A := rowA ρ1 0) (μ := μ) (ρ1 112 2).toNat FU 0 (flm ρ1 124 0 3584 0) (by decide) (by rw [rowA_0]; omega) (by unfold FU; omega) (rowA_co (ScG_sa f2) 0) jf f3
  rw [rowA_0] at q1
  unfold f_X11_best f_X12_best
  rw [nm_eq, hρ, show (0 + 58 : Int) = 58 from rfl, show (0 + 106 : Int) = 106 from rfl, bn_eq p1, bn_eq f1, q1]
  simp only [wp_some]
  exact ⟨trivial, RR_co p2 (SaR_tr (ScG_sa f2) (ScG_sa q2)) h'⟩
