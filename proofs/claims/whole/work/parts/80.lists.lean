theorem cut_small {v s : Int} (v1 : -1 ≤ v) (v9 : v ≤ 9) : cutM v s = v := by
  have h : ∀ z : Fin 11, nrm (jb ((z.val : Int) - 1)) = (z.val : Int) - 1 ∧ nrm (js ((z.val : Int) - 1)) = (z.val : Int) - 1 := by decide +kernel
  have q := h ⟨(v + 1).toNat, by omega⟩
  simp only [Int.toNat_of_nonneg (show 0 ≤ v + 1 by omega), show v + 1 - 1 = v by omega] at q
  unfold cutM
  rw [q.1, q.2, nrm_id (z := v) (by omega) (by omega)]
  split
  · rfl
  · split
    · rfl
    · split <;> rfl
theorem wyM_in {A w F : Int → Int} (L0 : 0 ≤ A 2) (L9 : A 2 ≤ 9) : ∀ (r : Nat) (p i : Int), -1 ≤ wyM A w F r p i ∧ wyM A w F r p i ≤ 9
  | 0, _, _ => ⟨by show (-1 : Int) ≤ -1; decide, by show (-1 : Int) ≤ 9; decide⟩
  | r + 1, p, i => by
    unfold wyM
    split
    · decide
    · split
      · rcases onL_in (A := A) (w := w) (F := F) (p := p) (A 2).toNat 0 (by decide) (by omega) with q | ⟨q1, q2, _⟩
        · rw [q]; decide
        · omega
      · exact wyM_in L0 L9 r _ _
theorem lists_c {a cnt S so g : Int} {V : Int → Int} {ρ : Mem} (a0 : 0 ≤ a) (a4 : a < 4) (S40 : S ≤ 40) (cS : cnt ≤ S) (s0 : 0 ≤ so) (s3 : so ≤ 3) (g0 : 0 ≤ g) (g7 : g < 7) (fo : fillOk (rowA ρ 0)) :
    ∀ (d n : Nat) (i : Int) (μ : Mem), 0 ≤ i → i + d = cnt → d < n → JR μ 58 ρ → (∀ l, 0 ≤ l → l < ρ 112 2 → μ 99 l = wK (rowA ρ 0) l) → rowOk μ → isD (EdG (rowA ρ 0) (wK (rowA ρ 0))) g (xF μ) → (∀ k, V k = wyM (rowA ρ 0) (wK (rowA ρ 0)) (xF μ) 9 (ρ 112 55) k) → μ (90 + 2 * a) 1 = S → μ (90 + 2 * a) 2 = so → (∀ k, 0 ≤ k → k < i → μ (91 + 2 * a) k = V k) →
    ∃ μ', f_X11_lists_w91 n 0 (90 + 2 * a) cnt i μ = some (cnt, μ') ∧ (∀ c k, c ≠ 91 + 2 * a → μ' c k = μ c k) ∧ (∀ k, 0 ≤ k → k < cnt → μ' (91 + 2 * a) k = V k) ∧ (∀ k, cnt ≤ k → μ' (91 + 2 * a) k = μ (91 + 2 * a) k) := by
  have kT := (tray_k a0 a4).1
  intro d
  induction d with
  | zero =>
    intro n i μ i0 id hn j hw hr hD hV m1 m2 h
    obtain ⟨n, rfl⟩ : ∃ q, n = q + 1 := ⟨n - 1, by omega⟩
    refine ⟨μ, ?_, fun _ _ _ => rfl, fun k k0 k1 => h k k0 (by omega), fun _ _ => rfl⟩
    rw [f_X11_lists_w91, nrm_id (z := cnt) (by omega) (by omega), nrm_id (z := i) (by omega) (by omega), if_pos (by omega)]
  | succ d ih =>
    intro n i μ i0 id hn j hw hr hD hV m1 m2 h
    obtain ⟨n, rfl⟩ : ∃ q, n = q + 1 := ⟨n - 1, by omega⟩
    obtain ⟨hL, hR, _, ⟨L0, L9⟩, _, ⟨K1, K7⟩, _, ⟨c1, c2, c3⟩, _⟩ := now_is j
    have hLo := hL
    unfold isL at hLo
    have lw := laneOnWay_eq (A := rowA ρ 0) (w := wK (rowA ρ 0)) (i := i) hL hR (wK_ok fo) (fun l l0 l1 => by rw [rowA_0] at l1; exact hw l l0 l1) hr g0 g7 hD (nrm_id (by omega) (by omega)) c2 (by omega : ρ 112 55 < 7)
    rw [← hV] at lw
    have vi : -1 ≤ V i ∧ V i ≤ 9 := by rw [hV]; exact wyM_in (by rw [rowA_0]; exact L0) (by rw [rowA_0]; exact L9) _ _ _
    have hp := put_eq (t := 90 + 2 * a) (i := i) (v := V i) m1 m2 s0 s3 i0 (by omega) S40
    rw [cut_small vi.1 vi.2, show 90 + 2 * a + 1 = 91 + 2 * a by omega] at hp
    have hx : xF (ms μ (91 + 2 * a) i (V i)) = xF μ := by
      funext k
      unfold xF
      rw [ms_nc (by omega)]
    have hc : ∀ c k, c ≠ 91 + 2 * a → ms μ (91 + 2 * a) i (V i) c k = μ c k := fun c k hc => ms_nc hc
    have j2 : JR (ms μ (91 + 2 * a) i (V i)) 58 ρ := by
      unfold JR
      rw [hc 58 0 (by omega)]
      exact ⟨hL, LR_co hL (fun c k _ _ _ => hc c k (by omega)) hR, CR_co (fun k => hc 58 k (by omega)) (fun k => hc 59 k (by omega)) j.2.2⟩
    obtain ⟨μ', y1, y2, y3, y4⟩ := ih n (i + 1) (ms μ (91 + 2 * a) i (V i)) (by omega) (by omega) (by omega) j2 (fun l l0 l1 => by rw [hc 99 l (by omega)]; exact hw l l0 l1) (fun k k0 k7 => by rw [hc 100 k (by omega)]; exact hr k k0 k7) (by rw [hx]; exact hD) (by rw [hx]; exact hV) (by rw [hc _ _ (by omega)]; exact m1) (by rw [hc _ _ (by omega)]; exact m2) (by
      intro k k0 k1
      by_cases e : k = i
      · rw [e, ms_eq]
      · rw [ms_ni e]; exact h k k0 (by omega))
    refine ⟨μ', ?_, fun c k q => (y2 c k q).trans (hc c k q), y3, fun k k1 => by rw [y4 k k1, ms_ni (by omega)]⟩
    rw [f_X11_lists_w91, nrm_id (z := cnt) (by omega) (by omega), nrm_id (z := i) (by omega) (by omega), if_neg (by omega), show (0 + 98 : Int) = 98 from rfl, show (0 + 58 : Int) = 58 from rfl, c1, bn_eq lw, gd_pos kT, nrm_id (z := V i) (by omega) (by omega), bn_eq hp]
    exact y1
theorem lists_m {a cnt g : Int} {V E A : Int → Int} {μ : Mem} (a0 : 0 ≤ a) (a4 : a < 4) (cS : cnt ≤ 40) (g0 : 0 ≤ g) (g7 : g < 7) (hE : isD (EdG A (wC A)) g E) :
    ∀ (d n : Nat) (i : Int) (ρ : Mem), rowA ρ 0 = A → 0 ≤ i → i + d = cnt → d < n → JR μ 58 ρ → ρ 121 = E → (∀ k, V k = wyM A (wC A) E 9 (A 55) k) → (∀ k, 0 ≤ k → k < i → ρ 128 (40 * a + k) = V k) →
    ∃ ρ', f_X12_lists_w93 n 111 a cnt i ρ = some (cnt, ρ') ∧ (∀ c k, c ≠ 116 → c ≠ 117 → ¬ (c = 128 ∧ 40 * a ≤ k ∧ k < 40 * a + cnt) → ρ' c k = ρ c k) ∧ (∀ k, 0 ≤ k → k < cnt → ρ' 128 (40 * a + k) = V k) := by
  intro d
  induction d with
  | zero =>
    intro n i ρ hA i0 id hn j hEr hV h
    obtain ⟨n, rfl⟩ : ∃ q, n = q + 1 := ⟨n - 1, by omega⟩
    refine ⟨ρ, ?_, fun _ _ _ _ _ => rfl, fun k k0 k1 => h k k0 (by omega)⟩
    rw [f_X12_lists_w93, nrm_id (z := cnt) (by omega) (by omega), nrm_id (z := i) (by omega) (by omega), if_pos (by omega)]
  | succ d ih =>
    intro n i ρ hA i0 id hn j hEr hV h
    obtain ⟨n, rfl⟩ : ∃ q, n = q + 1 := ⟨n - 1, by omega⟩
    obtain ⟨hL, hR, _, ⟨L0, L9⟩, _, ⟨K1, K7⟩, _, ⟨c1, c2, c3⟩, _⟩ := now_is j
    have e55 : ρ 112 55 = A 55 := by rw [← hA, rowA_0]
    have e2 : ρ 112 2 = A 2 := by rw [← hA, rowA_0]
    obtain ⟨ρ2, p1, p2⟩ := laneAt_eq (i := i) j g0 g7 (by rw [hA, hEr]; exact hE) (nrm_id (by omega) (by omega))
    rw [hA, hEr, e55, ← hV] at p1
    have vi : -1 ≤ V i ∧ V i ≤ 9 := by rw [hV]; exact wyM_in (by omega) (by omega) _ _ _
    have hc : ∀ c k, c ≠ 116 → c ≠ 117 → ¬ (c = 128 ∧ k = 40 * a + i) → ms ρ2 128 (40 * a + i) (V i) c k = ρ c k := by
      intro c k x1 x2 x3
      rw [ms_at, if_neg x3, p2 c k x1 x2]
    have row : (ms ρ2 128 (40 * a + i) (V i)) 121 = E := by
      rw [← hEr]
      funext k
      exact hc 121 k (by decide) (by decide) (by omega)
    obtain ⟨ρ', y1, y2, y3⟩ := ih n (i + 1) (ms ρ2 128 (40 * a + i) (V i)) (by rw [← hA]; funext k; rw [rowA_0, rowA_0]; exact hc 112 k (by decide) (by decide) (by omega)) (by omega) (by omega) (by omega) (JR_r (fun k => hc 112 k (by decide) (by decide) (by omega)) j) row hV (by
      intro k k0 k1
      by_cases e : k = i
      · rw [e, ms_eq]
      · rw [hc 128 _ (by decide) (by decide) (by omega)]; exact h k k0 (by omega))
    refine ⟨ρ', ?_, fun c k x1 x2 x3 => by rw [y2 c k x1 x2 x3, hc c k x1 x2 (by omega)], y3⟩
    rw [f_X12_lists_w93, nrm_id (z := cnt) (by omega) (by omega), nrm_id (z := i) (by omega) (by omega), if_neg (by omega), bn_eq p1, nrm_id (z := 40 * a + i) (by omega) (by omega), gd_pos (by omega), nm_eq, nrm_id (z := V i) (by omega) (by omega), show (111 + 17 : Int) = 128 from rfl]
    exact y1
theorem op_lists (a b : Int) (ha : nrm a = a) (hb : nrm b = b) : Op2 (f_X11_lists 0 a b) (f_X12_lists 111 a b) := by
  intro μ ρ h
  have h' := RR_co (SaC_rfl μ) (SaR_thrown ρ 0) h
  generalize hρ : ms ρ 111 0 0 = ρ1 at h'
  have j : JR μ 58 ρ1 := h'.2.2.1
  obtain ⟨hL, hR, _, ⟨L0, L9⟩, _, ⟨K1, K7⟩, hl, ⟨c1, c2, c3⟩, _⟩ := now_is j
  unfold f_X11_lists f_X12_lists
  rw [nm_eq, hρ, show (0 + 58 : Int) = 58 from rfl, show (0 + 98 : Int) = 98 from rfl, bn_eq (trayOf_eq μ ha), bn_within ha rfl rfl]
  by_cases ga : 0 ≤ a ∧ a < 4
  · rw [if_pos ga, if_neg (by omega : ¬ 90 + 2 * a < 0), gd_pos (isL_k hL), bn_eq (hasPlace_eq hR hb), if_pos (by omega : 0 ≤ a ∧ a ≤ 3), if_neg (by decide : ¬ nrm 1 = 0), bn_eq (isPlace_eq K1 K7 hb), rowA_0]
    by_cases g : 0 ≤ b ∧ b < ρ1 112 1
    · rw [if_pos g, if_neg (by decide : ¬ nrm 1 = 0), if_neg (by decide : ¬ nrm 1 = 0), gd_pos (tray_k ga.1 ga.2).1, bn_eq (noTray_eq ha (trays_s h')), if_pos ga]
      rcases h'.2.2.2.2.2 a ga.1 ga.2 with ⟨e1, e2⟩ | ⟨e1, e2, e3, e4, e5, e6, e7, e8⟩
      · rw [e1, if_neg (by decide : ¬ nrm 1 = 0), if_pos e2, if_neg (by decide : ¬ nrm (-6) = 0)]
        simp only [wp_some]
        exact ⟨trivial, h'⟩
      · rw [e1, if_pos (by decide : nrm 0 = 0), if_neg (by omega : ¬ ρ1 126 a = -1), if_pos (by decide : nrm 0 = 0)]
        obtain ⟨μ2, p1, p2, p3, p4, p5⟩ := measureFillings_eq j g.1 (by omega : b < 7)
        obtain ⟨ρ2, q1, q2, q3⟩ := laysCost_eq g.1 (by omega : b < 7) j
        have fo := fillOk_of j
        have cv := cv_eq fo (EdG_ok hR (wK_ok fo)) (EdG_ok hR (wC_ok fo)) g.1 (by omega : b < 7) p3 q2 c2 (by omega : ρ1 112 55 < 7)
        have e58 : μ2 58 1 = ρ1 112 55 := by rw [p2 58 1 (by unfold EssC; omega)]; exact c1
        have hRR := RR_co p2 (Sc121_sa q3) h'
        have rk := p4 (ρ1 112 55) c2 (by omega)
        have hf : farI = 268435456 := rfl
        have et1 : μ2 (90 + 2 * a) 1 = ρ1 127 a := by rw [p2 _ _ (by unfold EssC; omega)]; exact e5
        have et2 : μ2 (90 + 2 * a) 2 = ρ1 126 a := by rw [p2 _ _ (by unfold EssC; omega)]; exact e2
        have er1 : ρ2 127 a = ρ1 127 a := q3 127 a (by decide) (by decide) (by decide)
        rw [bn_eq p1, e58, bn_eq (farFrom_eq μ2 c2 (by omega)), bn_eq q1, nrm_id (z := μ2 100 (ρ1 112 55)) (by omega) (by omega), show nrm (-1) = -1 from rfl, show nrm 268435456 = farI from rfl]
        rcases cv with ⟨x1, x2⟩ | ⟨x1, x2, x3, x4, x5, x6⟩
        · rw [x2, if_pos ((xf_far rk).mp x1), if_pos (by decide : nrm farI = farI)]
          simp only [wp_some]
          exact ⟨trivial, hRR⟩
        · have n1 : μ2 100 (ρ1 112 55) ≠ -1 := fun z => x1 ((xf_far rk).mpr z)
          have eD : xF μ2 (ρ1 112 55) = μ2 100 (ρ1 112 55) := if_neg n1
          rw [eD] at x3 x4 x5 x6
          unfold cvM at x3
          have n2 : ¬ nrm (ρ2 121 (ρ1 112 55)) = farI := by rw [nrm_id (by omega) (by omega)]; exact x2
          have hq : μ2 100 (ρ1 112 55) % 16 = ρ2 121 (ρ1 112 55) % 1000 := by omega
          have q6 : 0 ≤ ρ2 121 (ρ1 112 55) % 1000 ∧ ρ2 121 (ρ1 112 55) % 1000 ≤ 6 := by omega
          unfold f_X6_lanesIn
          rw [if_neg n1, if_neg n2, bn_eq rfl, jrem_nn x4 (by omega) (by decide) (by decide), jrem_nn (a := ρ2 121 (ρ1 112 55)) (by omega) (by omega) (by decide) (by decide), et1, hq, bn_eq (min_eq μ2 (nrm_id (by omega) (by omega)) (nrm_id (by omega) (by omega))), ha, gd_pos ga, gd_pos ga, show (111 + 16 : Int) = 127 from rfl, er1, nrm_id (z := ρ1 127 a) (by omega) (by omega), nrm_id (z := ρ2 121 (ρ1 112 55) % 1000) (by omega) (by omega)]
          generalize hc : (if ρ1 127 a < ρ2 121 (ρ1 112 55) % 1000 then ρ1 127 a else ρ2 121 (ρ1 112 55) % 1000) = cnt
          have hcnt : 0 ≤ cnt ∧ cnt ≤ ρ1 127 a := by rw [← hc]; split <;> omega
          have hm : (if ρ1 127 a ≤ ρ2 121 (ρ1 112 55) % 1000 then f_X12_lists_j88 111 a (ρ1 127 a) ρ2 else f_X12_lists_j88 111 a (ρ2 121 (ρ1 112 55) % 1000) ρ2) = f_X12_lists_w93 FU 111 a cnt 0 ρ2 := by
            unfold f_X12_lists_j88
            rw [← hc]
            by_cases z : ρ1 127 a < ρ2 121 (ρ1 112 55) % 1000
            · rw [if_pos (by omega), if_pos z]
            · rw [if_neg z]
              by_cases y : ρ1 127 a ≤ ρ2 121 (ρ1 112 55) % 1000
              · rw [if_pos y, show ρ1 127 a = ρ2 121 (ρ1 112 55) % 1000 by omega]
              · rw [if_neg y]
          rw [hm]
          obtain ⟨j2, _⟩ := JR_sa p2 (SaR_rfl ρ1) j
          have jr2 := (JR_sa (SaC_rfl μ) (Sc121_sa q3) j).1
          have eA : rowA ρ2 0 = rowA ρ1 0 := rowA_co (Sc121_sa q3) 0
          obtain ⟨μ3, u1, u2, u3, u4⟩ := lists_c (V := fun k => wyM (rowA ρ1 0) (wK (rowA ρ1 0)) (xF μ2) 9 (ρ1 112 55) k) ga.1 ga.2 e7 hcnt.2 e3 e4 g.1 (by omega : b < 7) fo cnt.toNat FU 0 μ2 (by decide) (by omega) (by unfold FU; omega) j2 p5 p4 p3 (fun _ => rfl) et1 et2 (fun k _ k1 => absurd k1 (by omega))
          obtain ⟨ρ3, v1, v2, v3⟩ := lists_m (μ := μ) (V := fun k => wyM (rowA ρ1 0) (wC (rowA ρ1 0)) (ρ2 121) 9 (ρ1 112 55) k) (A := rowA ρ1 0) (cnt := cnt) ga.1 ga.2 (by omega) g.1 (by omega : b < 7) q2 cnt.toNat FU 0 ρ2 eA (by decide) (by omega) (by unfold FU; omega) jr2 rfl (fun k => by rw [rowA_0]) (fun k _ k1 => absurd k1 (by omega))
          rw [u1, v1]
          simp only [wp_some]
          refine ⟨trivial, RR_of (RA_c ?_ ?_ (RA_of hRR)) ?_⟩
          · intro c k y1 y2
            exact u2 c k (by omega)
          · intro c k y1 y2
            unfold EssR at y2
            exact v2 c k (by omega) (by omega) (by omega)
          · intro t t0 t4
            by_cases e : t = a
            · subst e
              refine .inr ?_
              rw [u2 _ _ (by omega), u2 _ _ (by omega), u2 _ _ (by omega), v2 126 t (by decide) (by decide) (by omega), v2 127 t (by decide) (by decide) (by omega)]
              rcases hRR.2.2.2.2.2 t t0 t4 with z | ⟨z1, z2, z3, z4, z5, z6, z7, z8⟩
              · exfalso
                have := q3 126 t (by decide) (by decide) (by decide)
                omega
              · refine ⟨z1, z2, z3, z4, z5, z6, z7, ?_⟩
                intro k k0 k1
                by_cases kc : k < cnt
                · rw [u3 k k0 kc, v3 k k0 kc]
                  have ew := wyM_cv hR fo g.1 (by omega : b < 7) p3 q2 9 (ρ1 112 55) k c2 (by omega)
                  have wi := wyM_in (A := rowA ρ1 0) (w := wC (rowA ρ1 0)) (F := ρ2 121) (by rw [rowA_0]; exact L0) (by rw [rowA_0]; exact L9) 9 (ρ1 112 55) k
                  exact ⟨ew, nrl_id (by omega) (by omega)⟩
                · rw [u4 k (by omega), v2 128 _ (by decide) (by decide) (by omega)]
                  exact z8 k k0 k1
            · refine TrayR_c (μ := μ2) (ρ := ρ2) ?_ ?_ ?_ ?_ ?_ (hRR.2.2.2.2.2 t t0 t4)
              · intro k; exact u2 _ k (by omega)
              · intro k; exact u2 _ k (by omega)
              · exact v2 126 t (by decide) (by decide) (by omega)
              · exact v2 127 t (by decide) (by decide) (by omega)
              · intro k k0 k1; exact v2 128 _ (by decide) (by decide) (by omega)
    · rw [if_neg g, if_pos (by decide : nrm 0 = 0), if_pos (by decide : nrm 0 = 0)]
      simp only [wp_some]
      exact ⟨trivial, h'⟩
  · rw [if_neg ga, if_pos (by decide : (-1 : Int) < 0), if_neg (by omega : ¬ (0 ≤ a ∧ a ≤ 3)), if_pos (by decide : nrm 0 = 0)]
    simp only [wp_some]
    exact ⟨trivial, h'⟩
