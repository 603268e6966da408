theorem EdO {A : Int → Int} {w a b : Int} (h : EdG A (wO A) (w, a, b)) : w = 1 := by
  obtain ⟨l, _, _, h1, h2, _⟩ := h
  dsimp only at h2
  unfold wO at h1 h2
  by_cases e : openM A l = 1
  · rw [if_pos e] at h2; exact h2
  · rw [if_neg e] at h1; exact absurd rfl h1
theorem un_rk {A D : Int → Int} {g : Int} (ok : okE (EdG A (wO A))) (hD : isD (EdG A (wO A)) g D) : ∀ (n : Nat) (k : Int), 0 ≤ k → k < 7 → D k ≤ n → D k ≠ farI → D k ≤ rkD D k := by
  intro n
  induction n with
  | zero =>
    intro k k0 k7 kn kf
    have := rk_6 D k0 k7
    omega
  | succ n ih =>
    intro k k0 k7 kn kf
    have rk := rk_6 D k0 k7
    by_cases e : k = g
    · have e0 : D k = 0 := by rw [e]; exact hD.1.1
      omega
    · obtain ⟨⟨w, a, b⟩, x1, x2, x3, x4⟩ := hD.1.2.2.1 k k0 k7 e kf
      obtain ⟨o1, _, o3, o4, _⟩ := ok _ x1
      have w1 := EdO x1
      have c := hD.2 _ x1 x3
      dsimp only at *
      rw [x2] at c
      have hk : D k = D a + w := by omega
      have hlt := rk_lt (D := D) (k := k) o3 o4 (by omega)
      have := ih a o3 o4 (by omega) x3
      omega
theorem wy_end {μ : Mem} {La g : Int} {A D : Int → Int} (hR : LR μ La A) (g0 : 0 ≤ g) (g7 : g < 7) (hD : isD (EdG A (wO A)) g D) : ∀ (r : Nat) (p i : Int), 0 ≤ p → p < 7 → D p ≤ i → wyM A (wO A) D r p i = -1
  | 0, _, _, _, _, _ => rfl
  | r + 1, p, i, p0, p7, h => by
    unfold wyM
    by_cases e : D p = farI ∨ D p = 0
    · rw [if_pos e]
    · obtain ⟨q1, q2, q3, q4, q5, q6, q7, _⟩ := onL_D hR (wO_ok A) g0 g7 hD p0 p7 (fun x => e (.inl x)) (fun x => e (.inr x))
      have hb := hD.1.2.1 p p0 p7
      have w1 : wO A (onL A (wO A) D p (A 2).toNat 0) = 1 := by
        by_cases z : openM A (onL A (wO A) D p (A 2).toNat 0) = 1
        · exact if_pos z
        · exact absurd (if_neg z) q5
      have e0 : D p ≠ 0 := fun x => e (.inr x)
      rw [if_neg e, if_neg (by omega)]
      exact wy_end hR g0 g7 hD r _ _ q3 q4 (by omega)
theorem way_m {A D : Int → Int} {μ : Mem} {La g i c : Int} (hR : LR μ La A) (ok : okA A) (g0 : 0 ≤ g) (g7 : g < 7) (hD : isD (EdG A (wO A)) g D) (hi : nrm i = i) (i0 : 0 ≤ i) (c0 : 0 ≤ c) (c7 : c < 7) :
    ∀ (e m n : Nat) (ρ : Mem), n + e = 7 → e < m → RS A (fun l => A (56 + l)) ρ → ρ 112 55 = c → (D c = farI ∨ (n : Int) ≤ D c) → ∃ ρ', f_X12_way_w38 m 111 g i (n : Int) ρ = some (wyM A (wO A) D 9 c i, ρ') ∧ FD 0 ρ ρ' := by
  have rk := rk_6 D c0 c7
  have ur := fun x => un_rk (EdG_ok hR (wO_ok A)) hD (D c).toNat c c0 c7 (by omega) x
  intro e
  induction e with
  | zero =>
    intro m n ρ hn hm hS hc hd
    obtain ⟨m, rfl⟩ : ∃ q, m = q + 1 := ⟨m - 1, by omega⟩
    have df : D c = farI := by
      rcases hd with q | q
      · exact q
      · apply Classical.byContradiction
        intro x
        have := ur x
        omega
    refine ⟨ρ, ?_, FD_rf⟩
    rw [f_X12_way_w38, nrm_id (z := (n : Int)) (by omega) (by omega), if_pos (by show (6 : Int) < n; omega)]
    unfold wyM
    rw [if_pos (.inl df)]
  | succ e ih =>
    intro m n ρ hn hm hS hc hd
    obtain ⟨m, rfl⟩ : ∃ q, m = q + 1 := ⟨m - 1, by omega⟩
    obtain ⟨ρ2, p1, p2, p3⟩ := finds_m hR ok g0 g7 n 64 _ c 0 ρ (by decide) (by omega) (by omega) hS c0 c7
    rw [Int.zero_add] at p1
    rw [f_X12_way_w38, nrm_id (z := (n : Int)) (by omega) (by omega), if_neg (by show ¬ ((6 : Int) < n); omega), show (111 + 1 : Int) = 112 from rfl, hc]
    unfold f_X12_finds
    rw [bn_eq p1]
    by_cases z : D c = n
    · obtain ⟨q1, q2⟩ := fd_near hR g0 g7 hD n _ c 9 c0 c7 opn_0 z (fun l _ _ => .inl rfl) (by omega) (by omega)
      rw [q1, if_neg (by decide : ¬ nrm 1 = 0), hi]
      by_cases y : (n : Int) ≤ i
      · rw [if_pos y, wy_end hR g0 g7 hD 9 c i c0 c7 (by omega)]
        exact ⟨ρ2, rfl, p2⟩
      · rw [if_neg y, gd_pos (by omega), show (111 + 9 : Int) = 120 from rfl]
        have := p3 q1 i i0 (by omega)
        rw [Int.zero_add] at this
        rw [this, q2 i i0 (by omega)]
        exact ⟨ρ2, rfl, p2⟩
    · have far : D c = farI ∨ (n : Int) < D c := by omega
      rw [fd_far hR g0 g7 hD n _ c c0 c7 opn_0 far, if_pos (by decide : nrm 0 = 0)]
      have e112 : ∀ i, ρ2 112 i = ρ 112 i := fun i => p2 112 i (by decide) (by decide) (by omega)
      obtain ⟨ρ', y1, y2⟩ := ih m (n + 1) ρ2 (by omega) (by omega) (RS_co hS e112) (by rw [e112]; exact hc) (by omega)
      rw [show ((n + 1 : Nat) : Int) = (n : Int) + 1 by omega] at y1
      exact ⟨ρ', y1, FD_tr p2 y2⟩
theorem op_way (a b : Int) (ha : nrm a = a) (hb : nrm b = b) : Op2 (f_X11_way 0 a b) (f_X12_way 111 a b) := by
  intro μ ρ h
  have h' := RR_co (SaC_rfl μ) (SaR_thrown ρ 0) h
  generalize hρ : ms ρ 111 0 0 = ρ1 at h'
  have j : JR μ 58 ρ1 := h'.2.2.1
  obtain ⟨hL, hR, _, ⟨L0, L9⟩, _, ⟨K1, K7⟩, hl, ⟨c1, c2, c3⟩, ⟨r1, r2, r3⟩, ⟨b1, b2, b3⟩, hd⟩ := now_is j
  unfold f_X11_way f_X12_way
  rw [nm_eq, hρ, show (0 + 58 : Int) = 58 from rfl, show (0 + 98 : Int) = 98 from rfl, gd_pos (isL_k hL), bn_eq (hasPlace_eq hR ha), bn_eq (isPlace_eq K1 K7 ha), rowA_0, show (111 + 1 : Int) = 112 from rfl]
  by_cases g : 0 ≤ a ∧ a < ρ1 112 1
  · rw [if_pos g, if_neg (by decide : ¬ nrm 1 = 0), if_neg (by decide : ¬ nrm 1 = 0), hb]
    by_cases z : 0 ≤ b
    · rw [if_pos z, if_pos z]
      obtain ⟨μ2, p1, p2, p3, p4, p5⟩ := measureOpen_eq j g.1 (by omega)
      obtain ⟨j2, e2⟩ := JR_sa p2 (SaR_rfl ρ1) j
      obtain ⟨hL', hR', _, _, _, _, _, ⟨c1', _⟩, _⟩ := now_is j2
      have okk : okA (rowA ρ1 0) := by
        unfold okA
        simp only [rowA_0]
        exact ⟨⟨K1, K7⟩, ⟨L0, L9⟩, ⟨r2, r3⟩, ⟨b2, b3⟩⟩
      have lw := laneOnWay_eq (p := ρ1 112 55) hL' hR' (wO_ok (rowA ρ1 0)) (fun l l0 l1 => p5 l l0 (by rw [rowA_0] at l1; exact l1)) p4 g.1 (by omega) p3 hb c2 (by omega)
      rw [bn_eq p1, c1', bn_eq lw, ha, nrm_id (z := ρ1 112 55) (by omega) (by omega)]
      by_cases y : a = ρ1 112 55
      · rw [if_pos y]
        simp only [wp_some]
        refine ⟨?_, RR_co p2 (SaR_rfl ρ1) h'⟩
        have : xF μ2 (ρ1 112 55) = 0 := by rw [← y]; exact p3.1.1
        unfold wyM
        rw [if_pos (.inr this)]
      · rw [if_neg y]
        have d1 : xF μ2 (ρ1 112 55) ≠ 0 := fun q => y (D_zero hR (wO_ok _) p3 c2 (by omega) q).symm
        have d0 := p3.1.2.1 (ρ1 112 55) c2 (by omega)
        obtain ⟨ρ2, t1, t2⟩ := way_m (g := a) (i := b) (c := ρ1 112 55) hR okk g.1 (by omega) p3 hb z c2 (by omega) 6 FU 1 ρ1 (by decide) (by decide) ⟨fun _ _ => by rw [rowA_0], fun l l0 l1 => by show _ = rowA ρ1 0 (56 + l) ∧ 0 ≤ rowA ρ1 0 (56 + l) ∧ rowA ρ1 0 (56 + l) ≤ 6; rw [rowA_0] at l1 ⊢; exact ⟨rfl, (hd l l0 l1).2⟩⟩ rfl (.inr (by omega))
        rw [show ((1 : Nat) : Int) = 1 from rfl] at t1
        rw [t1]
        simp only [wp_some]
        refine ⟨trivial, RR_co p2 ?_ h'⟩
        intro c i e
        unfold EssR at e
        exact t2 c i (by omega) (by omega) (by omega)
    · rw [if_neg z, if_neg z]
      simp only [wp_some]
      exact ⟨trivial, h'⟩
  · rw [if_neg g, if_pos (by decide : nrm 0 = 0), if_pos (by decide : nrm 0 = 0)]
    simp only [wp_some]
    exact ⟨trivial, h'⟩
