theorem jshl_L {L : Int} (L0 : 0 ≤ L) (L9 : L ≤ 9) : 1 ≤ jshl 1 L ∧ jshl 1 L ≤ 512 := by
  obtain ⟨_, a2, a3, _⟩ := all_is L0 L9
  omega
theorem shuts_w {k wh o : Int} {μ : Mem} {A : Int → Int} (L0 : 0 ≤ A 2) (L9 : A 2 ≤ 9) (hL : isL (μ 58 0)) (hR : LR μ (μ 58 0) A) (c2 : 0 ≤ A 55) (c3 : A 55 < 7) (hc : μ 58 1 = A 55) (k0 : 0 ≤ k) (k7 : k < 7) (o0 : 0 ≤ o) (o1 : o < 512) (ho : ∀ l, 0 ≤ l → tb o l = decide (l < A 2 ∧ openM A l = 1)) (hwh : nrm wh = wh) :
    ∀ (r n m : Nat) (s b : Int) (ρ : Mem), rowA ρ 0 = A → 0 ≤ s → s + r = jshl 1 (A 2) → r < n → r < m → JR μ 58 ρ → (b = -1 ∨ (0 ≤ b ∧ b < 512)) →
    ∃ v ρ', f_X11_leastShutting_w13 n 0 k o b s μ = some (v, μ) ∧ f_X12_shuts_w31 m 111 k wh b s ρ = some (if v = -1 then v else if wh = 1 then v else boM v, ρ') ∧ SaR ρ ρ' ∧ (v = -1 ∨ (0 ≤ v ∧ v < 512)) := by
  have hJL := jshl_L L0 L9
  have g2 := hR.2.1.1
  obtain ⟨_, al2, al3, al4⟩ := all_is L0 L9
  intro r
  induction r with
  | zero =>
    intro n m s b ρ hA s0 sr hn hm j hb
    obtain ⟨n, rfl⟩ : ∃ q, n = q + 1 := ⟨n - 1, by omega⟩
    obtain ⟨m, rfl⟩ : ∃ q, m = q + 1 := ⟨m - 1, by omega⟩
    have e2 : ρ 112 2 = A 2 := by rw [← hA, rowA_0]
    refine ⟨b, ρ, ?_, ?_, SaR_rfl ρ, hb⟩
    · rw [f_X11_leastShutting_w13, show (0 + 58 : Int) = 58 from rfl, gd_pos (isL_k hL), g2, nrm_id (z := jshl 1 (A 2)) (by omega) (by omega), nrm_id (z := s) (by omega) (by omega), if_pos (by omega)]
    · rw [f_X12_shuts_w31, show (111 + 1 : Int) = 112 from rfl, e2, nrm_id (z := jshl 1 (A 2)) (by omega) (by omega), nrm_id (z := s) (by omega) (by omega), if_pos (by omega), nrm_id (z := b) (by omega) (by omega), show nrm (-1) = -1 from rfl, hwh, show nrm 1 = 1 from rfl, bn_eq (bitsOf_eq _ _)]
      by_cases x : b = -1
      · rw [if_pos x, if_pos x]
      · rw [if_neg x, if_neg x]
        by_cases y : wh = 1
        · rw [if_pos y, if_pos y]
        · rw [if_neg y, if_neg y]
  | succ r ih =>
    intro n m s b ρ hA s0 sr hn hm j hb
    obtain ⟨n, rfl⟩ : ∃ q, n = q + 1 := ⟨n - 1, by omega⟩
    obtain ⟨m, rfl⟩ : ∃ q, m = q + 1 := ⟨m - 1, by omega⟩
    have e2 : ρ 112 2 = A 2 := by rw [← hA, rowA_0]
    have e55 : ρ 112 55 = A 55 := by rw [← hA, rowA_0]
    obtain ⟨u1, u2, u3, u4⟩ := andnot_tb (x := o) (y := s) o0 (by omega) s0 (by omega)
    obtain ⟨w1, w2, w3, w4⟩ := andnot_tb (x := jshl 1 (A 2) - 1) (y := s) al2 (by omega) s0 (by omega)
    have u9 := u3 9 (by omega)
    have w9 := w3 9 (by omega)
    obtain ⟨cs, cs1, cs2⟩ := comingFrom_eq hR u1 (by omega) c2 c3
    obtain ⟨ρ2, q1, q2, q3⟩ := laysFar_eq (set := jand (jshl 1 (A 2) - 1) (jxor s (-1))) w1 (by omega) j
    rw [hA, e55] at q2
    have hs := cm_D hR (wF_ok A (jand (jshl 1 (A 2) - 1) (jxor s (-1)))) c2 c3 (set := jand o (jxor s (-1))) (s := cs) (by
      intro l l0 l1
      rw [u4 l l0, ho l l0]
      unfold wF
      rw [w4 l l0, al4 l l0, decide_eq_true l1]
      by_cases q : openM A l = 1
      · rw [decide_eq_true ⟨l1, q⟩]
        cases tb s l
        · rw [if_pos ⟨rfl, q⟩]; exact ⟨fun _ => (by decide), fun _ => rfl⟩
        · rw [if_neg (fun x => absurd x.1 (by decide))]; exact ⟨fun x => (by cases x), fun x => absurd rfl x⟩
      · rw [if_neg (fun x => q x.2), decide_eq_false (fun x => q x.2)]
        exact ⟨fun x => (by cases x), fun x => absurd rfl x⟩) cs2 q2 k0 k7
    have hA2 : rowA ρ2 0 = A := by rw [rowA_co (Sc119_sa q3)]; exact hA
    have j2 := (JR_sa (SaC_rfl μ) (Sc119_sa q3) j).1
    have rr := q2.1.2.1 k k0 k7
    have hf : farI = 268435456 := rfl
    have testC : f_X11_leastShutting_j52 (f_X11_leastShutting_w13 n) 0 k o b s 1 μ = if ρ2 119 k = farI then f_X11_leastShutting_w13 n 0 k o s (s + 1) μ else f_X11_leastShutting_w13 n 0 k o b (s + 1) μ := by
      unfold f_X11_leastShutting_j52
      rw [if_neg (by decide : ¬ nrm 1 = 0), show (0 + 58 : Int) = 58 from rfl, gd_pos (isL_k hL), hc, bn_eq cs1, jbit cs2.1 (by have := cs2.2.1; omega) k0 (by omega)]
      by_cases q : tb cs k = true
      · rw [if_pos q, if_neg (by decide : ¬ nrm 1 = 0), if_neg (hs.mp q)]; rfl
      · rw [if_neg q, if_pos (by decide : nrm 0 = 0)]
        have : ρ2 119 k = farI := by
          apply Classical.byContradiction
          intro hx
          exact q (hs.mpr hx)
        rw [if_pos this]; rfl
    have testR : f_X12_shuts_j64 (f_X12_shuts_w31 m) 111 k wh b s ρ = if ρ2 119 k = farI then f_X12_shuts_w31 m 111 k wh s (s + 1) ρ2 else f_X12_shuts_w31 m 111 k wh b (s + 1) ρ2 := by
      unfold f_X12_shuts_j64 f_X12_everyLane
      rw [bn_eq rfl, show (111 + 1 : Int) = 112 from rfl, e2, bn_eq q1, nrm_id (z := k) (by omega) (by omega), gd_pos ⟨k0, k7⟩, show (111 + 8 : Int) = 119 from rfl, nrm_id (z := ρ2 119 k) (by omega) (by omega), show nrm 268435456 = farI from rfl]
      rfl
    have sb := bits_eq s0 (by omega : s < 512)
    have hcU : f_X11_leastShutting_w13 (n + 1) 0 k o b s μ = if b = -1 then f_X11_leastShutting_j52 (f_X11_leastShutting_w13 n) 0 k o b s 1 μ else if bcM b ≤ boM s then f_X11_leastShutting_w13 n 0 k o b (s + 1) μ else f_X11_leastShutting_j52 (f_X11_leastShutting_w13 n) 0 k o b s 1 μ := by
      rw [f_X11_leastShutting_w13, show (0 + 58 : Int) = 58 from rfl, gd_pos (isL_k hL), g2, nrm_id (z := jshl 1 (A 2)) (by omega) (by omega), nrm_id (z := s) (by omega) (by omega), if_neg (by omega), nrm_id (z := b) (by omega) (by omega), show nrm (-1) = -1 from rfl, bn_eq (bitCount_eq _ _), bn_eq (bitCount_eq _ _), sb.1, nrm_id (z := boM s) (by omega) (by omega)]
      by_cases x : b = -1
      · rw [if_pos x, if_pos x]; rfl
      · rw [if_neg x, if_neg x]
        have bb := bits_eq (z := b) (by omega) (by omega)
        rw [bb.1, nrm_id (z := boM b) (by omega) (by omega)]
        rfl
    have hrU : f_X12_shuts_w31 (m + 1) 111 k wh b s ρ = if b = -1 then f_X12_shuts_j64 (f_X12_shuts_w31 m) 111 k wh b s ρ else if boM s < boM b then f_X12_shuts_j64 (f_X12_shuts_w31 m) 111 k wh b s ρ else f_X12_shuts_w31 m 111 k wh b (s + 1) ρ := by
      rw [f_X12_shuts_w31, show (111 + 1 : Int) = 112 from rfl, e2, nrm_id (z := jshl 1 (A 2)) (by omega) (by omega), nrm_id (z := s) (by omega) (by omega), if_neg (by omega), nrm_id (z := b) (by omega) (by omega), show nrm (-1) = -1 from rfl, bn_eq (bitsOf_eq _ _), bn_eq (bitsOf_eq _ _), nrm_id (z := boM s) (by omega) (by omega)]
      by_cases x : b = -1
      · rw [if_pos x, if_pos x]
      · rw [if_neg x, if_neg x]
        have bb := bits_eq (z := b) (by omega) (by omega)
        rw [nrm_id (z := boM b) (by omega) (by omega)]
        rfl
    have finish : ∀ b' (ρ3 : Mem), SaR ρ ρ3 → rowA ρ3 0 = A → JR μ 58 ρ3 → (b' = -1 ∨ (0 ≤ b' ∧ b' < 512)) → f_X11_leastShutting_w13 (n + 1) 0 k o b s μ = f_X11_leastShutting_w13 n 0 k o b' (s + 1) μ → f_X12_shuts_w31 (m + 1) 111 k wh b s ρ = f_X12_shuts_w31 m 111 k wh b' (s + 1) ρ3 →
        ∃ v ρ', f_X11_leastShutting_w13 (n + 1) 0 k o b s μ = some (v, μ) ∧ f_X12_shuts_w31 (m + 1) 111 k wh b s ρ = some (if v = -1 then v else if wh = 1 then v else boM v, ρ') ∧ SaR ρ ρ' ∧ (v = -1 ∨ (0 ≤ v ∧ v < 512)) := by
      intro b' ρ3 x1 x2 x3 x4 x5 x6
      obtain ⟨v, ρ', y1, y2, y3, y4⟩ := ih n m (s + 1) b' ρ3 x2 (by omega) (by omega) (by omega) (by omega) x3 x4
      exact ⟨v, ρ', by rw [x5]; exact y1, by rw [x6]; exact y2, SaR_tr x1 y3, y4⟩
    have test : f_X11_leastShutting_w13 (n + 1) 0 k o b s μ = f_X11_leastShutting_j52 (f_X11_leastShutting_w13 n) 0 k o b s 1 μ → f_X12_shuts_w31 (m + 1) 111 k wh b s ρ = f_X12_shuts_j64 (f_X12_shuts_w31 m) 111 k wh b s ρ →
        ∃ v ρ', f_X11_leastShutting_w13 (n + 1) 0 k o b s μ = some (v, μ) ∧ f_X12_shuts_w31 (m + 1) 111 k wh b s ρ = some (if v = -1 then v else if wh = 1 then v else boM v, ρ') ∧ SaR ρ ρ' ∧ (v = -1 ∨ (0 ≤ v ∧ v < 512)) := by
      intro x1 x2
      rw [testC] at x1
      rw [testR] at x2
      by_cases q : ρ2 119 k = farI
      · rw [if_pos q] at x1 x2
        exact finish s ρ2 (Sc119_sa q3) hA2 j2 (.inr ⟨s0, by omega⟩) x1 x2
      · rw [if_neg q] at x1 x2
        exact finish b ρ2 (Sc119_sa q3) hA2 j2 hb x1 x2
    by_cases x : b = -1
    · rw [if_pos x] at hcU hrU
      exact test hcU hrU
    · rw [if_neg x] at hcU hrU
      have bb := bits_eq (z := b) (by omega) (by omega)
      rw [bb.1] at hcU
      by_cases lt : boM s < boM b
      · rw [if_neg (by omega)] at hcU
        rw [if_pos lt] at hrU
        exact test hcU hrU
      · rw [if_pos (by omega)] at hcU
        rw [if_neg lt] at hrU
        exact finish b ρ (SaR_rfl ρ) hA j hb hcU hrU
theorem op_shuts (a b : Int) (ha : nrm a = a) (hb : nrm b = b) : Op2 (f_X11_shuts 0 a b) (f_X12_shuts 111 a b) := by
  intro μ ρ h
  have h' := RR_co (SaC_rfl μ) (SaR_thrown ρ 0) h
  generalize hρ : ms ρ 111 0 0 = ρ1 at h'
  have j : JR μ 58 ρ1 := h'.2.2.1
  obtain ⟨hL, hR, _, ⟨L0, L9⟩, _, ⟨K1, K7⟩, hl, ⟨c1, c2, c3⟩, _⟩ := now_is j
  unfold f_X11_shuts f_X12_shuts
  rw [nm_eq, hρ, show (0 + 58 : Int) = 58 from rfl, gd_pos (isL_k hL), bn_eq (hasPlace_eq hR ha), bn_eq (isPlace_eq K1 K7 ha), rowA_0]
  by_cases g : 0 ≤ a ∧ a < ρ1 112 1
  · rw [if_pos g, if_neg (by decide : ¬ nrm 1 = 0), if_neg (by decide : ¬ nrm 1 = 0), bn_within hb rfl rfl, hb, show nrm 1 = 1 from rfl]
    by_cases q : 0 ≤ b ∧ b ≤ 1
    · rw [if_neg (by omega : ¬ b < 0), if_pos q.2, if_pos q, if_neg (by decide : ¬ nrm 1 = 0)]
      obtain ⟨o, μ2, o1, o2, o3, o4, o5⟩ := openLanes_eq j
      obtain ⟨j2, j3⟩ := JR_sa o2 (SaR_rfl ρ1) j
      obtain ⟨hL2, hR2, _, _, _, _, _, ⟨c12, _⟩, _⟩ := now_is j2
      have hJL := jshl_L L0 L9
      obtain ⟨v, ρ2, v1, v2, v3, v4⟩ := shuts_w (k := a) (wh := b) (o := o) (μ := μ2) (A := rowA ρ1 0) (by rw [rowA_0]; exact L0) (by rw [rowA_0]; exact L9) hL2 hR2 (by rw [rowA_0]; exact c2) (by rw [rowA_0]; omega) (by rw [rowA_0]; exact c12) g.1 (by omega) o3 o4 (by intro l l0; rw [rowA_0]; exact o5 l l0) hb (jshl 1 (ρ1 112 2)).toNat FU FU 0 (-1) ρ1 rfl (by decide) (by rw [rowA_0]; omega) (by unfold FU; omega) (by unfold FU; omega) j2 (.inl rfl)
      have hls : f_X11_leastShutting 0 a μ = some (v, μ2) := by
        unfold f_X11_leastShutting
        rw [show (0 + 58 : Int) = 58 from rfl, bn_eq o1]
        exact v1
      have hRR := RR_co o2 v3 h'
      rw [bn_eq hls, v2, nrm_id (z := v) (by omega) (by omega), show nrm (-1) = -1 from rfl, bn_eq (bitCount_eq _ _)]
      by_cases x : v = -1
      · rw [if_pos x, if_pos x, x]; simp only [wp_some]; exact ⟨trivial, hRR⟩
      · have vb := bits_eq (z := v) (by omega) (by omega)
        rw [if_neg x, if_neg x, vb.1]
        by_cases y : b = 0
        · rw [if_pos y, if_neg (by omega : ¬ b = 1)]; simp only [wp_some]; exact ⟨trivial, hRR⟩
        · rw [if_neg y, if_pos (by omega : b = 1)]; simp only [wp_some]; exact ⟨trivial, hRR⟩
    · rw [if_neg q, if_pos (by decide : nrm 0 = 0)]
      by_cases b0 : b < 0
      · rw [if_pos b0]; simp only [wp_some]; exact ⟨trivial, h'⟩
      · rw [if_neg b0, if_neg (by omega)]; simp only [wp_some]; exact ⟨trivial, h'⟩
  · rw [if_neg g, if_pos (by decide : nrm 0 = 0), if_pos (by decide : nrm 0 = 0)]
    simp only [wp_some]
    exact ⟨trivial, h'⟩
