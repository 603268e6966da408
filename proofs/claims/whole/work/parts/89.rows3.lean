def ScT (La : Int) (μ μ' : Mem) : Prop := ∀ c i, ¬ (c = La + 7 ∧ i = 6) → c ≠ La + 11 → c ≠ La + 12 → ¬ (102 ≤ c ∧ c ≤ 104) → μ' c i = μ c i
def TB (A D : Int → Int) (La g : Int) (μ : Mem) : Prop :=
  LR μ La A ∧ (μ 58 0 = La ∧ μ 58 1 = A 55 ∧ μ 58 2 = A 66 ∧ μ 58 3 = A 65) ∧ (∀ l, 0 ≤ l → l < A 2 → μ 59 l = A (56 + l) ∧ 0 ≤ A (56 + l) ∧ A (56 + l) ≤ 6) ∧ μ 101 4 = La ∧ μ 101 5 = 98 ∧ μ 101 6 = g ∧ rowOk μ ∧ xF μ = D
theorem TB_co {A D : Int → Int} {La g : Int} {μ μ' : Mem} (hL : isL La) (h : TB A D La g μ) (s : ScT La μ μ') : TB A D La g μ' := by
  have hLo := hL
  unfold isL at hLo
  have s2 : ∀ c i, 58 ≤ c → c < 102 → μ' c i = μ c i := fun c i _ _ => s c i (by omega) (by omega) (by omega) (by omega)
  obtain ⟨h1, ⟨h2, h20, h21, h22⟩, h3, h4, h5, h6, h7, h8⟩ := h
  refine ⟨LR_co hL (fun c i _ _ _ => s c i (by omega) (by omega) (by omega) (by omega)) h1, ⟨by rw [s2 58 0 (by decide) (by decide)]; exact h2, by rw [s2 58 1 (by decide) (by decide)]; exact h20, by rw [s2 58 2 (by decide) (by decide)]; exact h21, by rw [s2 58 3 (by decide) (by decide)]; exact h22⟩, ?_, by rw [s2 101 4 (by decide) (by decide)]; exact h4, by rw [s2 101 5 (by decide) (by decide)]; exact h5, by rw [s2 101 6 (by decide) (by decide)]; exact h6, ?_, ?_⟩
  · intro l l0 l1; rw [s2 59 l (by decide) (by decide)]; exact h3 l l0 l1
  · intro k k0 k7; rw [s2 100 k (by decide) (by decide)]; exact h7 k k0 k7
  · rw [← h8]; funext k; unfold xF; rw [s2 100 k (by decide) (by decide)]
theorem mayGo_a {A D : Int → Int} {La g l d : Int} {μ : Mem} (hL : isL La) (ok : okA A) (h : TB A D La g μ) (l0 : 0 ≤ l) (l9 : l < 9) (d0 : 0 ≤ d) (d6 : d ≤ 6) : ∃ b μ', f_X3_mayGo La l d 58 μ = some (b, μ') ∧ (b = 0 ∨ b = 1) ∧ ScL La μ μ' ∧ (l < A 2 → b = mayM A l d (A 66) (A 65)) := by
  obtain ⟨h1, ⟨h2, h20, h21, h22⟩, h3, _⟩ := h
  by_cases e : l < A 2
  · obtain ⟨μ2, p1, p2⟩ := mayGo_c hL h1 l0 e d0 d6 kk_58 h21 h22 ok.2.2.1.1 ok.2.2.1.2 ok.2.2.2.1 ok.2.2.2.2
    exact ⟨_, μ2, p1, mayM_01 _ _ _ _ _, p2, fun _ => rfl⟩
  · refine ⟨0, μ, ?_, .inl rfl, ScL_rf, fun x => absurd x e⟩
    unfold f_X3_mayGo
    rw [bn_eq (hasLane_eq h1.2.1.1 ok.2.1.1 ok.2.1.2 (nrm_id (by omega) (by omega))), if_neg (show ¬ (0 ≤ l ∧ l < A 2) by omega), if_pos (by decide : nrm 0 = 0)]
theorem worn_a {A D : Int → Int} {La g l d : Int} {μ : Mem} (hL : isL La) (ok : okA A) (h : TB A D La g μ) (l0 : 0 ≤ l) (l9 : l < 9) (d0 : 0 ≤ d) (d6 : d ≤ 6) : ∃ b μ', f_X3_wornFrom La l d (A 66) μ = some (b, μ') ∧ ScL La μ μ' ∧ (l < A 2 → b = wornM A l d (A 66)) := by
  obtain ⟨h1, ⟨h2, h20, h21, h22⟩, h3, _⟩ := h
  by_cases e : l < A 2
  · obtain ⟨μ2, p1, p2⟩ := wornFrom_c hL h1 l0 e d0 d6 ok.2.2.1.1 ok.2.2.1.2
    exact ⟨_, μ2, p1, p2, fun _ => rfl⟩
  · refine ⟨d, μ, ?_, ScL_rf, fun x => absurd x e⟩
    unfold f_X3_wornFrom
    rw [bn_eq (hasLane_eq h1.2.1.1 ok.2.1.1 ok.2.1.2 (nrm_id (by omega) (by omega))), if_neg (show ¬ (0 ≤ l ∧ l < A 2) by omega), if_pos (by decide : nrm 0 = 0)]
theorem cr_in {A D : Int → Int} {La g l x : Int} {k21 : Int → Int → Int → Int → Mem → Option (Int × Mem)} (hL : isL La) (ok : okA A) (l0 : 0 ≤ l) (l9 : l < 9) : ∀ (e n : Nat) (k : Int) (μ : Mem), 0 ≤ k → k + e = 7 → e < n → TB A D La g μ →
    ∃ μ', f_X8_countRows_w44 k21 n 101 58 x l k μ = k21 101 58 x (l + 1) μ' ∧ ScT La μ μ' ∧ (∀ i, μ' 104 i = μ 104 i) ∧
      (∀ j, ¬ (l * 7 + k ≤ j ∧ j < l * 7 + 7) → μ' 102 j = μ 102 j ∧ μ' 103 j = μ 103 j) ∧
      (l < A 2 → ∀ d, k ≤ d → d ≤ 6 → μ' 102 (l * 7 + d) = mayM A l d (A 66) (A 65) ∧ μ' 103 (l * 7 + d) = wornM A l d (A 66)) := by
  have hLo := hL
  unfold isL at hLo
  intro e
  induction e with
  | zero =>
    intro n k μ k0 hk hn h
    obtain ⟨n, rfl⟩ : ∃ q, n = q + 1 := ⟨n - 1, by omega⟩
    refine ⟨μ, ?_, fun _ _ _ _ _ _ => rfl, fun _ => rfl, fun _ _ => ⟨rfl, rfl⟩, fun _ d _ _ => by omega⟩
    rw [f_X8_countRows_w44, nrm_id (z := k) (by omega) (by omega), if_pos (by show (7 : Int) ≤ k; omega)]
  | succ e ih =>
    intro n k μ k0 hk hn h
    obtain ⟨n, rfl⟩ : ∃ q, n = q + 1 := ⟨n - 1, by omega⟩
    obtain ⟨b, μ1, p1, p2, p3, p4⟩ := mayGo_a hL ok h l0 l9 k0 (by omega : k ≤ 6)
    have s2 : ScT La μ (ms μ1 102 (l * 7 + k) b) := by
      intro c i x1 x2 x3 x4
      rw [ms_nc (by omega)]
      exact p3 c i x1 x2 x3
    have h2 := TB_co hL h s2
    obtain ⟨w, μ3, q1, q3, q4⟩ := worn_a hL ok h2 l0 l9 k0 (by omega : k ≤ 6)
    have s4 : ScT La (ms μ1 102 (l * 7 + k) b) (ms μ3 103 (l * 7 + k) w) := by
      intro c i x1 x2 x3 x4
      rw [ms_nc (by omega)]
      exact q3 c i x1 x2 x3
    have h4 := TB_co hL h2 s4
    obtain ⟨μ', y1, y2, y3, y4, y5⟩ := ih n (k + 1) _ (by omega) (by omega) (by omega) h4
    have f2 : ∀ j, ms μ3 103 (l * 7 + k) w 102 j = if j = l * 7 + k then b else μ 102 j := by
      intro j
      rw [ms_nc (by decide), q3 102 j (by omega) (by omega) (by omega)]
      by_cases z : j = l * 7 + k
      · rw [z, ms_eq, if_pos rfl]
      · rw [ms_ni z, if_neg z, p3 102 j (by omega) (by omega) (by omega)]
    have f3 : ∀ j, ms μ3 103 (l * 7 + k) w 103 j = if j = l * 7 + k then w else μ 103 j := by
      intro j
      by_cases z : j = l * 7 + k
      · rw [z, ms_eq, if_pos rfl]
      · rw [ms_ni z, if_neg z, q3 103 j (by omega) (by omega) (by omega), ms_nc (by decide), p3 103 j (by omega) (by omega) (by omega)]
    refine ⟨μ', ?_, fun c i x1 x2 x3 x4 => (y2 c i x1 x2 x3 x4).trans ((s4 c i x1 x2 x3 x4).trans (s2 c i x1 x2 x3 x4)), ?_, ?_, ?_⟩
    · rw [f_X8_countRows_w44, nrm_id (z := k) (by omega) (by omega), if_neg (by show ¬ ((7 : Int) ≤ k); omega), h.2.2.2.1, gd_pos (isL_k hL), bn_eq p1, nrm_id (z := l * 7 + k) (by omega) (by omega), gd_pos (by omega), gd_pos (show isB b by rcases p2 with q | q <;> rw [q] <;> decide), nm_eq, gd_pos kk_58, show (101 + 1 : Int) = 102 from rfl, h2.2.2.2.1, gd_pos (isL_k hL), h2.2.1.2.2.1, bn_eq q1, gd_pos (by omega), nm_eq, show (101 + 2 : Int) = 103 from rfl]
      exact y1
    · intro i
      rw [y3, ms_nc (by decide), q3 104 i (by omega) (by omega) (by omega), ms_nc (by decide), p3 104 i (by omega) (by omega) (by omega)]
    · intro j hj
      obtain ⟨z1, z2⟩ := y4 j (by omega)
      rw [z1, z2, f2, f3, if_neg (by omega), if_neg (by omega)]
      exact ⟨rfl, rfl⟩
    · intro hl d d0 d6
      by_cases z : d = k
      · obtain ⟨z1, z2⟩ := y4 (l * 7 + d) (by omega)
        rw [z1, z2, f2, f3, if_pos (by omega), if_pos (by omega), z]
        exact ⟨p4 hl, q4 hl⟩
      · exact y5 hl d (by omega) d6
theorem cr_out {A D : Int → Int} {La g x : Int} (hL : isL La) (ok : okA A) : ∀ (e n : Nat) (l : Int) (μ : Mem), 0 ≤ l → l + e = 9 → e < n → TB A D La g μ →
    (∀ m, 0 ≤ m → m < l → m < A 2 → μ 104 m = A (56 + m) ∧ ∀ d, 0 ≤ d → d ≤ 6 → μ 102 (m * 7 + d) = mayM A m d (A 66) (A 65) ∧ μ 103 (m * 7 + d) = wornM A m d (A 66)) →
    ∃ μ', f_X8_countRows_w21 n 101 58 x l μ = (bn (f_X8_rowsFrom 101 (A 55) x μ') fun r μ3 => some (r, μ3)) ∧ ScT La μ μ' ∧ TB A D La g μ' ∧ CS A (fun l => A (56 + l)) D La g μ' := by
  have hLo := hL
  unfold isL at hLo
  intro e
  induction e with
  | zero =>
    intro n l μ l0 hl hn h ht
    obtain ⟨n, rfl⟩ : ∃ q, n = q + 1 := ⟨n - 1, by omega⟩
    have hh := h
    obtain ⟨h1, ⟨h2, h20, h21, h22⟩, h3, h4, h5, h6, h7, h8⟩ := h
    have L9 := ok.2.1.2
    refine ⟨μ, ?_, fun _ _ _ _ _ _ => rfl, hh, ⟨h1, h4, h5, h6, h7, h8, ?_, ?_⟩⟩
    · rw [f_X8_countRows_w21, nrm_id (z := l) (by omega) (by omega), if_pos (by show (9 : Int) ≤ l; omega), gd_pos kk_58, h20]
    · intro m d m0 m1 d0 d6
      exact (ht m m0 (by omega) m1).2 d d0 d6
    · intro m m0 m1
      exact ⟨(ht m m0 (by omega) m1).1, (h3 m m0 m1).2⟩
  | succ e ih =>
    intro n l μ l0 hl hn h ht
    obtain ⟨n, rfl⟩ : ∃ q, n = q + 1 := ⟨n - 1, by omega⟩
    obtain ⟨h1, ⟨h2, h20, h21, h22⟩, h3, h4, h5, h6, h7, h8⟩ := id h
    have hd : f_X0_depthOf 58 l μ = some (if 0 ≤ l ∧ l < A 2 then A (56 + l) else 0, μ) := by
      unfold f_X0_depthOf
      rw [h2, gd_pos (isL_k hL), bn_eq (hasLane_eq h1.2.1.1 ok.2.1.1 ok.2.1.2 (nrm_id (by omega) (by omega)))]
      by_cases z : 0 ≤ l ∧ l < A 2
      · rw [if_pos z, if_pos z, if_neg (by decide : ¬ nrm 1 = 0), nrm_id (z := l) (by omega) (by omega), gd_pos (by omega), show (58 + 1 : Int) = 59 from rfl, (h3 l z.1 z.2).1]
      · rw [if_neg z, if_neg z, if_pos (by decide : nrm 0 = 0)]
    generalize hv : (if 0 ≤ l ∧ l < A 2 then A (56 + l) else 0) = v at hd
    have s1 : ScT La μ (ms μ 104 l v) := fun c i _ _ _ x4 => ms_nc (by omega)
    obtain ⟨μ2, p1, p2, p3, p4, p5⟩ := cr_in (x := x) (k21 := f_X8_countRows_w21 n) hL ok l0 (by omega : l < 9) 7 FU 0 _ (by decide) (by decide) (by decide) (TB_co hL h s1)
    have h2' := TB_co hL (TB_co hL h s1) p2
    obtain ⟨μ', y1, y2, y3, y4⟩ := ih n (l + 1) μ2 (by omega) (by omega) (by omega) h2' (by
      intro m m0 m1 m2
      by_cases z : m = l
      · subst z
        refine ⟨?_, fun d d0 d6 => p5 m2 d d0 d6⟩
        rw [p3, ms_eq, ← hv, if_pos ⟨m0, m2⟩]
      · obtain ⟨t1, t2⟩ := ht m m0 (by omega) m2
        refine ⟨by rw [p3, ms_ni z]; exact t1, fun d d0 d6 => ?_⟩
        obtain ⟨u1, u2⟩ := p4 (m * 7 + d) (by omega)
        rw [u1, u2, ms_nc (by decide), ms_nc (by decide)]
        exact t2 d d0 d6)
    refine ⟨μ', ?_, fun c i x1 x2 x3 x4 => (y2 c i x1 x2 x3 x4).trans ((p2 c i x1 x2 x3 x4).trans (s1 c i x1 x2 x3 x4)), y3, y4⟩
    rw [f_X8_countRows_w21, nrm_id (z := l) (by omega) (by omega), if_neg (by show ¬ ((9 : Int) ≤ l); omega), gd_pos kk_58, bn_eq hd, gd_pos (by omega), nm_eq, show (101 + 3 : Int) = 104 from rfl, p1, y1]
theorem countRows_eq {A D : Int → Int} {La g : Int} {n : Nat} {μ : Mem} (hL : isL La) (ok : okA A) (g0 : 0 ≤ g) (g7 : g < 7) (hD : isD (EdG A (wO A)) g D) (hn : n ≤ 6) (h1 : LR μ La A) (h2 : μ 58 0 = La ∧ μ 58 1 = A 55 ∧ μ 58 2 = A 66 ∧ μ 58 3 = A 65) (h3 : ∀ l, 0 ≤ l → l < A 2 → μ 59 l = A (56 + l) ∧ 0 ≤ A (56 + l) ∧ A (56 + l) ≤ 6) (h7 : rowOk μ) (h8 : xF μ = D) (c0 : 0 ≤ A 55) (c7 : A 55 < 7) : ∃ μ', f_X8_countRows 101 58 98 g (n : Int) μ = some (rwM A g n (fun l => A (56 + l)) (A 55), μ') ∧ SaC μ μ' := by
  have hLo := hL
  unfold isL at hLo
  have s0 : ∀ c i, c ≠ 101 → ms (ms (ms μ 101 4 La) 101 5 98) 101 6 g c i = μ c i := fun c i hc => by rw [ms_nc hc, ms_nc hc, ms_nc hc]
  have h : TB A D La g (ms (ms (ms μ 101 4 La) 101 5 98) 101 6 g) := by
    refine ⟨LR_co hL (fun c i _ _ _ => s0 c i (by omega)) h1, ⟨by rw [s0 58 0 (by decide)]; exact h2.1, by rw [s0 58 1 (by decide)]; exact h2.2.1, by rw [s0 58 2 (by decide)]; exact h2.2.2.1, by rw [s0 58 3 (by decide)]; exact h2.2.2.2⟩, ?_, rfl, rfl, rfl, ?_, ?_⟩
    · intro l l0 l1; rw [s0 59 l (by decide)]; exact h3 l l0 l1
    · intro k k0 k7; rw [s0 100 k (by decide)]; exact h7 k k0 k7
    · rw [← h8]; funext k; unfold xF; rw [s0 100 k (by decide)]
  obtain ⟨μ2, p1, p2, p3, p4⟩ := cr_out (x := (n : Int)) hL ok 9 FU 0 _ (by decide) (by decide) (by decide) h (fun m m0 m1 => by omega)
  obtain ⟨μ3, q1, q2⟩ := rows_c hL g0 g7 hD n 64 _ (A 55) μ2 hn (by omega) p4 opn_0 c0 c7
  refine ⟨μ3, ?_, ?_⟩
  · unfold f_X8_countRows
    rw [gd_pos kk_58, nm_eq, nm_eq, nm_eq, h2.1, p1]
    unfold f_X8_rowsFrom
    rw [bn_eq q1]
  · intro c i e
    unfold EssC at e
    rw [q2 c i (by omega), p2 c i (by omega) (by omega) (by omega) (by omega), s0 c i (by omega)]
theorem op_rows (a b : Int) (ha : nrm a = a) (hb : nrm b = b) : Op2 (f_X11_rows 0 a b) (f_X12_rows 111 a b) := by
  intro μ ρ h
  have h' := RR_co (SaC_rfl μ) (SaR_thrown ρ 0) h
  generalize hρ : ms ρ 111 0 0 = ρ1 at h'
  have j : JR μ 58 ρ1 := h'.2.2.1
  obtain ⟨hL, hR, _, ⟨L0, L9⟩, _, ⟨K1, K7⟩, hl, ⟨c1, c2, c3⟩, ⟨r1, r2, r3⟩, ⟨b1, b2, b3⟩, hd⟩ := now_is j
  unfold f_X11_rows f_X12_rows
  rw [nm_eq, hρ, show (0 + 58 : Int) = 58 from rfl, show (0 + 98 : Int) = 98 from rfl, show (0 + 101 : Int) = 101 from rfl, gd_pos (isL_k hL), bn_eq (hasPlace_eq hR ha), bn_eq (isPlace_eq K1 K7 ha), rowA_0, show (111 + 1 : Int) = 112 from rfl]
  by_cases g : 0 ≤ a ∧ a < ρ1 112 1
  · rw [if_pos g, if_neg (by decide : ¬ nrm 1 = 0), if_neg (by decide : ¬ nrm 1 = 0), bn_within hb rfl rfl, hb, show nrm 6 = 6 from rfl]
    by_cases z : 0 ≤ b ∧ b ≤ 6
    · obtain ⟨n, rfl⟩ : ∃ n : Nat, b = (n : Int) := ⟨b.toNat, by omega⟩
      obtain ⟨μ2, p1, p2, p3, p4, _⟩ := measureOpen_eq j g.1 (by omega)
      obtain ⟨j2, e2⟩ := JR_sa p2 (SaR_rfl ρ1) j
      obtain ⟨hL', hR', _, _, _, _, _, ⟨c1', _⟩, ⟨r1', _⟩, ⟨b1', _⟩, hd'⟩ := now_is j2
      have okk : okA (rowA ρ1 0) := by
        unfold okA
        simp only [rowA_0]
        exact ⟨⟨K1, K7⟩, ⟨L0, L9⟩, ⟨r2, r3⟩, ⟨b2, b3⟩⟩
      obtain ⟨μ3, q1, q2⟩ := countRows_eq (A := rowA ρ1 0) (D := xF μ2) (g := a) (n := n) hL' okk g.1 (by omega) p3 (by omega) hR' ⟨rfl, c1', r1', b1'⟩ (fun l l0 l1 => by rw [rowA_0] at l1 ⊢; exact hd' l l0 l1) p4 rfl c2 (by rw [rowA_0]; omega)
      obtain ⟨ρ2, t1, t2⟩ := rows_m (g := a) hR okk g.1 (by omega) n 64 (fun l => rowA ρ1 0 (56 + l)) (ρ1 112 55) ρ1 (by omega) (by omega) ⟨fun _ _ => by rw [rowA_0], fun l l0 l1 => by show _ = rowA ρ1 0 (56 + l) ∧ 0 ≤ rowA ρ1 0 (56 + l) ∧ rowA ρ1 0 (56 + l) ≤ 6; rw [rowA_0] at l1 ⊢; exact ⟨rfl, (hd l l0 l1).2⟩⟩ c2 (by omega)
      rw [if_neg (by omega), if_pos z.2, bn_eq p1, bn_eq q1, if_pos z, if_neg (by decide : ¬ nrm 1 = 0)]
      unfold f_X12_rowsFrom
      rw [bn_eq t1]
      simp only [wp_some]
      exact ⟨by rw [rowA_0], RR_co (SaC_tr p2 q2) (ScW_sa t2) h'⟩
    · rw [if_neg z, if_pos (by decide : nrm 0 = 0)]
      by_cases y : b < 0
      · rw [if_pos y]
        simp only [wp_some]
        exact ⟨trivial, h'⟩
      · rw [if_neg y, if_neg (by omega)]
        simp only [wp_some]
        exact ⟨trivial, h'⟩
  · rw [if_neg g, if_pos (by decide : nrm 0 = 0), if_pos (by decide : nrm 0 = 0)]
    simp only [wp_some]
    exact ⟨trivial, h'⟩
