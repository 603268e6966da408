/-! cells that a side leaves as they are -/
def FrC (μ μ' : Mem) : Prop := ∀ c i : Int, 111 ≤ c → μ' c i = μ c i
def FrR (μ μ' : Mem) : Prop := ∀ c i : Int, c < 111 → μ' c i = μ c i
theorem FrC.trans {a b c : Mem} (h : FrC a b) (g : FrC b c) : FrC a c := fun x i hx => (g x i hx).trans (h x i hx)
theorem FrR.trans {a b c : Mem} (h : FrR a b) (g : FrR b c) : FrR a c := fun x i hx => (g x i hx).trans (h x i hx)
theorem frc_rf {a : Mem} : FrC a a := fun _ _ _ => rfl
theorem frr_rf {a : Mem} : FrR a a := fun _ _ _ => rfl
theorem frc_ms {μ μ1 : Mem} {c i v : Int} (h : c < 111) (e : μ1 = ms μ c i v) : FrC μ μ1 := by
  subst e; intro x j hx; unfold ms; rw [if_neg (fun q => by omega)]
theorem frr_ms {μ μ1 : Mem} {c i v : Int} (h : 111 ≤ c) (e : μ1 = ms μ c i v) : FrR μ μ1 := by
  subst e; intro x j hx; unfold ms; rw [if_neg (fun q => by omega)]
theorem frc_cp {μ μ1 : Mem} {s d n : Int} (h : d < 111) (e : μ1 = cpm μ s d n) : FrC μ μ1 := by
  subst e; intro x j hx; unfold cpm; rw [if_neg (fun q => by omega)]
theorem bd_of {o : Int} {t lo hi : Nat} (h : isK o t) (ht : t ≠ 999) (hall : ∀ k : Nat, k < NC → kdL.getD k 999 = t → lo ≤ k ∧ k ≤ hi) : (lo : Int) ≤ o ∧ o ≤ hi := by
  obtain ⟨h0, h1⟩ := id h
  have hl := h.lt ht
  unfold kd at h1
  rw [if_neg (by omega)] at h1
  have := hall _ hl h1
  omega
theorem bd_0 {o : Int} (h : isK o 0) : 58 ≤ o ∧ o ≤ 87 := bd_of (lo := 58) (hi := 87) h (by decide) (by decide +kernel)
theorem bd_1 {o : Int} (h : isK o 1) : 106 ≤ o ∧ o ≤ 106 := bd_of (lo := 106) (hi := 106) h (by decide) (by decide +kernel)
theorem bd_2 {o : Int} (h : isK o 2) : 62 ≤ o ∧ o ≤ 62 := bd_of (lo := 62) (hi := 62) h (by decide) (by decide +kernel)
theorem bd_3 {o : Int} (h : isK o 3) : 6 ≤ o ∧ o ≤ 45 := bd_of (lo := 6) (hi := 45) h (by decide) (by decide +kernel)
theorem bd_4 {o : Int} (h : isK o 4) : 13 ≤ o ∧ o ≤ 52 := bd_of (lo := 13) (hi := 52) h (by decide) (by decide +kernel)
theorem bd_5 {o : Int} (h : isK o 5) : 108 ≤ o ∧ o ≤ 108 := bd_of (lo := 108) (hi := 108) h (by decide) (by decide +kernel)
theorem bd_6 {o : Int} (h : isK o 6) : 98 ≤ o ∧ o ≤ 98 := bd_of (lo := 98) (hi := 98) h (by decide) (by decide +kernel)
theorem bd_7 {o : Int} (h : isK o 7) : 2 ≤ o ∧ o ≤ 2 := bd_of (lo := 2) (hi := 2) h (by decide) (by decide +kernel)
theorem bd_8 {o : Int} (h : isK o 8) : 101 ≤ o ∧ o ≤ 101 := bd_of (lo := 101) (hi := 101) h (by decide) (by decide +kernel)
theorem bd_9 {o : Int} (h : isK o 9) : 3 ≤ o ∧ o ≤ 3 := bd_of (lo := 3) (hi := 3) h (by decide) (by decide +kernel)
theorem bd_10 {o : Int} (h : isK o 10) : 90 ≤ o ∧ o ≤ 96 := bd_of (lo := 90) (hi := 96) h (by decide) (by decide +kernel)
theorem bd_11 {o : Int} (h : isK o 11) : 0 ≤ o ∧ o ≤ 0 := bd_of (lo := 0) (hi := 0) h (by decide) (by decide +kernel)
theorem bd_12 {o : Int} (h : isK o 12) : 111 ≤ o ∧ o ≤ 111 := bd_of (lo := 111) (hi := 111) h (by decide) (by decide +kernel)
theorem bd_10002 {o : Int} (h : isK o 10002) : 15 ≤ o ∧ o ≤ 55 := bd_of (lo := 15) (hi := 55) h (by decide) (by decide +kernel)
theorem bd_10004 {o : Int} (h : isK o 10004) : 126 ≤ o ∧ o ≤ 127 := bd_of (lo := 126) (hi := 127) h (by decide) (by decide +kernel)
theorem bd_10006 {o : Int} (h : isK o 10006) : 17 ≤ o ∧ o ≤ 120 := bd_of (lo := 17) (hi := 120) h (by decide) (by decide +kernel)
theorem bd_10007 {o : Int} (h : isK o 10007) : 100 ≤ o ∧ o ≤ 122 := bd_of (lo := 100) (hi := 122) h (by decide) (by decide +kernel)
theorem bd_10008 {o : Int} (h : isK o 10008) : 12 ≤ o ∧ o ≤ 51 := bd_of (lo := 12) (hi := 51) h (by decide) (by decide +kernel)
theorem bd_10009 {o : Int} (h : isK o 10009) : 7 ≤ o ∧ o ≤ 104 := bd_of (lo := 7) (hi := 104) h (by decide) (by decide +kernel)
theorem bd_10013 {o : Int} (h : isK o 10013) : 118 ≤ o ∧ o ≤ 118 := bd_of (lo := 118) (hi := 118) h (by decide) (by decide +kernel)
theorem bd_10056 {o : Int} (h : isK o 10056) : 125 ≤ o ∧ o ≤ 125 := bd_of (lo := 125) (hi := 125) h (by decide) (by decide +kernel)
theorem bd_10063 {o : Int} (h : isK o 10063) : 103 ≤ o ∧ o ≤ 103 := bd_of (lo := 103) (hi := 103) h (by decide) (by decide +kernel)
theorem bd_10064 {o : Int} (h : isK o 10064) : 18 ≤ o ∧ o ≤ 57 := bd_of (lo := 18) (hi := 57) h (by decide) (by decide +kernel)
theorem bd_10512 {o : Int} (h : isK o 10512) : 107 ≤ o ∧ o ≤ 107 := bd_of (lo := 107) (hi := 107) h (by decide) (by decide +kernel)
theorem bd_10900 {o : Int} (h : isK o 10900) : 14 ≤ o ∧ o ≤ 116 := bd_of (lo := 14) (hi := 116) h (by decide) (by decide +kernel)
theorem bd_10901 {o : Int} (h : isK o 10901) : 4 ≤ o ∧ o ≤ 4 := bd_of (lo := 4) (hi := 4) h (by decide) (by decide +kernel)
theorem bd_11100 {o : Int} (h : isK o 11100) : 115 ≤ o ∧ o ≤ 115 := bd_of (lo := 115) (hi := 115) h (by decide) (by decide +kernel)
theorem bd_13300 {o : Int} (h : isK o 13300) : 112 ≤ o ∧ o ≤ 112 := bd_of (lo := 112) (hi := 112) h (by decide) (by decide +kernel)
theorem bd_20900 {o : Int} (h : isK o 20900) : 1 ≤ o ∧ o ≤ 1 := bd_of (lo := 1) (hi := 1) h (by decide) (by decide +kernel)
theorem bd_30002 {o : Int} (h : isK o 30002) : 113 ≤ o ∧ o ≤ 113 := bd_of (lo := 113) (hi := 113) h (by decide) (by decide +kernel)
theorem bd_30063 {o : Int} (h : isK o 30063) : 102 ≤ o ∧ o ≤ 102 := bd_of (lo := 102) (hi := 102) h (by decide) (by decide +kernel)
theorem bd_33584 {o : Int} (h : isK o 33584) : 123 ≤ o ∧ o ≤ 124 := bd_of (lo := 123) (hi := 124) h (by decide) (by decide +kernel)
theorem bd_40040 {o : Int} (h : isK o 40040) : 91 ≤ o ∧ o ≤ 97 := bd_of (lo := 91) (hi := 97) h (by decide) (by decide +kernel)
theorem bd_40160 {o : Int} (h : isK o 40160) : 128 ≤ o ∧ o ≤ 128 := bd_of (lo := 128) (hi := 128) h (by decide) (by decide +kernel)
theorem bd_50004 {o : Int} (h : isK o 50004) : 5 ≤ o ∧ o ≤ 5 := bd_of (lo := 5) (hi := 5) h (by decide) (by decide +kernel)
theorem bd_60002 {o : Int} (h : isK o 60002) : 84 ≤ o ∧ o ≤ 84 := bd_of (lo := 84) (hi := 84) h (by decide) (by decide +kernel)
theorem bd_60010 {o : Int} (h : isK o 60010) : 63 ≤ o ∧ o ≤ 63 := bd_of (lo := 63) (hi := 63) h (by decide) (by decide +kernel)
theorem bd_70004 {o : Int} (h : isK o 70004) : 89 ≤ o ∧ o ≤ 89 := bd_of (lo := 89) (hi := 89) h (by decide) (by decide +kernel)
theorem frc_X0_beginIn {x0 x1 : Int} {μ μ' : Mem} {r : Int} (t0 : isK x0 0) (hf : f_X0_beginIn x0 x1 μ = some (r, μ')) : FrC μ μ' := by
  unfold f_X0_beginIn at hf
  obtain ⟨μ1, e2, hf⟩ := nm_some hf
  have fq1 := (frc_ms (by have := bd_0 t0; omega) e2)
  obtain ⟨g3, hf⟩ := gd_some hf
  obtain ⟨μ4, e5, hf⟩ := nm_some hf
  have fq2 := fq1.trans (frc_ms (by have := bd_0 t0; omega) e5)
  obtain ⟨μ6, e7, hf⟩ := nm_some hf
  have fq3 := fq2.trans (frc_ms (by have := bd_0 t0; omega) e7)
  obtain ⟨μ8, e9, hf⟩ := nm_some hf
  have fq4 := fq3.trans (frc_ms (by have := bd_0 t0; omega) e9)
  obtain ⟨μ10, e11, hf⟩ := nm_some hf
  have fq5 := fq4.trans (frc_ms (by have := bd_0 t0; omega) e11)
  obtain ⟨μ12, e13, hf⟩ := nm_some hf
  have fq6 := fq5.trans (frc_cp (by have := bd_0 t0; omega) e13)
  cases hf; exact fq6
theorem frc_X0_takeOver {x0 x1 : Int} {μ μ' : Mem} {r : Int} (t0 : isK x0 0) (hf : f_X0_takeOver x0 x1 μ = some (r, μ')) : FrC μ μ' := by
  unfold f_X0_takeOver at hf
  obtain ⟨g1, hf⟩ := gd_some hf
  obtain ⟨μ2, e3, hf⟩ := nm_some hf
  have fq1 := (frc_ms (by have := bd_0 t0; omega) e3)
  obtain ⟨μ4, e5, hf⟩ := nm_some hf
  have fq2 := fq1.trans (frc_ms (by have := bd_0 t0; omega) e5)
  obtain ⟨μ6, e7, hf⟩ := nm_some hf
  have fq3 := fq2.trans (frc_ms (by have := bd_0 t0; omega) e7)
  obtain ⟨μ8, e9, hf⟩ := nm_some hf
  have fq4 := fq3.trans (frc_ms (by have := bd_0 t0; omega) e9)
  obtain ⟨μ10, e11, hf⟩ := nm_some hf
  have fq5 := fq4.trans (frc_ms (by have := bd_0 t0; omega) e11)
  obtain ⟨μ12, e13, hf⟩ := nm_some hf
  have fq6 := fq5.trans (frc_cp (by have := bd_0 t0; omega) e13)
  cases hf; exact fq6
theorem frc_X3_hasLane {x0 x1 : Int} {μ μ' : Mem} {r : Int} (t0 : isK x0 3) (hf : f_X3_hasLane x0 x1 μ = some (r, μ')) : FrC μ μ' := by
  unfold f_X3_hasLane at hf
  rcases Decidable.em (nrm x1 < 0) with c1 | c1
  · have hf := ite_t c1 hf
    cases hf; exact frc_rf
  · have hf := ite_f c1 hf
    rcases Decidable.em (nrm (μ x0 1) ≤ nrm x1) with c2 | c2
    · have hf := ite_t c2 hf
      cases hf; exact frc_rf
    · have hf := ite_f c2 hf
      rcases Decidable.em (nrm 9 ≤ nrm x1) with c3 | c3
      · have hf := ite_t c3 hf
        cases hf; exact frc_rf
      · have hf := ite_f c3 hf
        cases hf; exact frc_rf
theorem frc_X0_depthOf {x0 x1 : Int} {μ μ' : Mem} {r : Int} (t0 : isK x0 0) (hf : f_X0_depthOf x0 x1 μ = some (r, μ')) : FrC μ μ' := by
  unfold f_X0_depthOf at hf
  obtain ⟨g1, hf⟩ := gd_some hf
  obtain ⟨r3, μ2, e4, hf⟩ := bn_some hf
  have fq1 := (frc_X3_hasLane g1 e4)
  rcases Decidable.em (nrm r3 = 0) with c5 | c5
  · have hf := ite_t c5 hf
    cases hf; exact fq1
  · have hf := ite_f c5 hf
    obtain ⟨g6, hf⟩ := gd_some hf
    cases hf; exact fq1
theorem frc_w_X0_allDepths_4 : ∀ (n : Nat) (x0 x1 x2 : Int) (μ μ' : Mem) (r : Int), isK x0 0 → f_X0_allDepths_w4 n x0 x1 x2 μ = some (r, μ') → FrC μ μ' := by
  intro n
  induction n with
  | zero => intro x0 x1 x2 μ μ' r t0 hf; cases hf
  | succ n ih =>
    intro x0 x1 x2 μ μ' r t0 hf
    rw [f_X0_allDepths_w4.eq_2] at hf
    obtain ⟨g1, hf⟩ := gd_some hf
    rcases Decidable.em (nrm (μ (μ x0 0) 1) ≤ nrm x2) with c2 | c2
    · have hf := ite_t c2 hf
      cases hf; exact frc_rf
    · have hf := ite_f c2 hf
      rcases Decidable.em (nrm 9 ≤ nrm x2) with c3 | c3
      · have hf := ite_t c3 hf
        cases hf; exact frc_rf
      · have hf := ite_f c3 hf
        obtain ⟨g4, hf⟩ := gd_some hf
        obtain ⟨v5, e6, hf⟩ := nm_some hf
        exact ih _ _ _ _ _ _ t0 hf
theorem frc_X0_allDepths {x0 : Int} {μ μ' : Mem} {r : Int} (t0 : isK x0 0) (hf : f_X0_allDepths x0 μ = some (r, μ')) : FrC μ μ' := by
  unfold f_X0_allDepths at hf
  exact frc_w_X0_allDepths_4 FU _ _ _ _ _ _ t0 hf
theorem frc_X4_hasLaw {x0 x1 : Int} {μ μ' : Mem} {r : Int} (t0 : isK x0 4) (hf : f_X4_hasLaw x0 x1 μ = some (r, μ')) : FrC μ μ' := by
  unfold f_X4_hasLaw at hf
  rcases Decidable.em (nrm x1 < 0) with c1 | c1
  · have hf := ite_t c1 hf
    cases hf; exact frc_rf
  · have hf := ite_f c1 hf
    rcases Decidable.em (nrm 2 ≤ nrm x1) with c2 | c2
    · have hf := ite_t c2 hf
      cases hf; exact frc_rf
    · have hf := ite_f c2 hf
      obtain ⟨g3, hf⟩ := gd_some hf
      obtain ⟨g4, hf⟩ := gd_some hf
      rcases Decidable.em (nrm (μ (x0 + 3) (nrm x1)) ≤ nrm (μ (x0 + 2) (nrm x1))) with c5 | c5
      · have hf := ite_t c5 hf
        cases hf; exact frc_rf
      · have hf := ite_f c5 hf
        cases hf; exact frc_rf
theorem frc_J6_bitCount_0f7a4 {x0 : Int} {μ μ' : Mem} {r : Int} (hf : f_J6_bitCount_0f7a4 x0 μ = some (r, μ')) : FrC μ μ' := by
  unfold f_J6_bitCount_0f7a4 at hf
  obtain ⟨v1, e2, hf⟩ := nm_some hf
  obtain ⟨v3, e4, hf⟩ := nm_some hf
  obtain ⟨v5, e6, hf⟩ := nm_some hf
  obtain ⟨v7, e8, hf⟩ := nm_some hf
  obtain ⟨v9, e10, hf⟩ := nm_some hf
  cases hf; exact frc_rf
theorem frr_J6_bitCount_0f7a4 {x0 : Int} {μ μ' : Mem} {r : Int} (hf : f_J6_bitCount_0f7a4 x0 μ = some (r, μ')) : FrR μ μ' := by
  unfold f_J6_bitCount_0f7a4 at hf
  obtain ⟨v1, e2, hf⟩ := nm_some hf
  obtain ⟨v3, e4, hf⟩ := nm_some hf
  obtain ⟨v5, e6, hf⟩ := nm_some hf
  obtain ⟨v7, e8, hf⟩ := nm_some hf
  obtain ⟨v9, e10, hf⟩ := nm_some hf
  cases hf; exact frr_rf
theorem frc_X4_look {x0 x1 x2 x3 x4 x5 x6 : Int} {μ μ' : Mem} {r : Int} (t0 : isK x0 4) (hf : f_X4_look x0 x1 x2 x3 x4 x5 x6 μ = some (r, μ')) : FrC μ μ' := by
  unfold f_X4_look at hf
  obtain ⟨μ1, e2, hf⟩ := nm_some hf
  have fq1 := (frc_ms (by have := bd_4 t0; omega) e2)
  obtain ⟨μ3, e4, hf⟩ := nm_some hf
  have fq2 := fq1.trans (frc_ms (by have := bd_4 t0; omega) e4)
  obtain ⟨μ5, e6, hf⟩ := nm_some hf
  have fq3 := fq2.trans (frc_ms (by have := bd_4 t0; omega) e6)
  obtain ⟨μ7, e8, hf⟩ := nm_some hf
  have fq4 := fq3.trans (frc_ms (by have := bd_4 t0; omega) e8)
  obtain ⟨μ9, e10, hf⟩ := nm_some hf
  have fq5 := fq4.trans (frc_ms (by have := bd_4 t0; omega) e10)
  obtain ⟨μ11, e12, hf⟩ := nm_some hf
  have fq6 := fq5.trans (frc_ms (by have := bd_4 t0; omega) e12)
  cases hf; exact fq6
theorem frc_J9_max_7cf53 {x0 x1 : Int} {μ μ' : Mem} {r : Int} (hf : f_J9_max_7cf53 x0 x1 μ = some (r, μ')) : FrC μ μ' := by
  unfold f_J9_max_7cf53 at hf
  rcases Decidable.em (nrm x0 < nrm x1) with c1 | c1
  · have hf := ite_t c1 hf
    cases hf; exact frc_rf
  · have hf := ite_f c1 hf
    cases hf; exact frc_rf
theorem frc_J9_min_7cf53 {x0 x1 : Int} {μ μ' : Mem} {r : Int} (hf : f_J9_min_7cf53 x0 x1 μ = some (r, μ')) : FrC μ μ' := by
  unfold f_J9_min_7cf53 at hf
  rcases Decidable.em (nrm x1 < nrm x0) with c1 | c1
  · have hf := ite_t c1 hf
    cases hf; exact frc_rf
  · have hf := ite_f c1 hf
    cases hf; exact frc_rf
theorem frc_X4_push {x0 x1 : Int} {μ μ' : Mem} {r : Int} (t0 : isK x0 4) (hf : f_X4_push x0 x1 μ = some (r, μ')) : FrC μ μ' := by
  unfold f_X4_push at hf
  rcases Decidable.em (nrm (μ x0 6) < 0) with c1 | c1
  · have hf := ite_t c1 hf
    cases hf; exact frc_rf
  · have hf := ite_f c1 hf
    rcases Decidable.em (nrm 64 ≤ nrm (μ x0 6)) with c2 | c2
    · have hf := ite_t c2 hf
      cases hf; exact frc_rf
    · have hf := ite_f c2 hf
      obtain ⟨g5, hf⟩ := gd_some hf
      obtain ⟨μ3, e4, hf⟩ := nm_some hf
      have fq1 := (frc_ms (by have := bd_4 t0; omega) e4)
      obtain ⟨μ6, e7, hf⟩ := nm_some hf
      have fq2 := fq1.trans (frc_ms (by have := bd_4 t0; omega) e7)
      cases hf; exact fq2
theorem frc_X4_pop {x0 : Int} {μ μ' : Mem} {r : Int} (t0 : isK x0 4) (hf : f_X4_pop x0 μ = some (r, μ')) : FrC μ μ' := by
  unfold f_X4_pop at hf
  rcases Decidable.em (nrm (μ x0 6) < nrm 1) with c1 | c1
  · have hf := ite_t c1 hf
    cases hf; exact frc_rf
  · have hf := ite_f c1 hf
    rcases Decidable.em (nrm (μ x0 6) ≤ nrm 64) with c2 | c2
    · have hf := ite_t c2 hf
      obtain ⟨μ3, e4, hf⟩ := nm_some hf
      have fq1 := (frc_ms (by have := bd_4 t0; omega) e4)
      obtain ⟨g5, hf⟩ := gd_some hf
      cases hf; exact fq1
    · have hf := ite_f c2 hf
      cases hf; exact frc_rf
theorem frc_w_X4_reckon_31 {s0 : Int} {μ μ' : Mem} {r : Int} (hf : f_X4_reckon_j31 s0 μ = some (r, μ')) : FrC μ μ' := by
  unfold f_X4_reckon_j31 at hf
  rcases Decidable.em (nrm (kcmp s0 1000000) ≤ 0) with c1 | c1
  · have hf := ite_t c1 hf
    rcases Decidable.em (0 ≤ nrm (kcmp s0 (-1000000))) with c2 | c2
    · have hf := ite_t c2 hf
      cases hf; exact frc_rf
    · have hf := ite_f c2 hf
      cases hf; exact frc_rf
  · have hf := ite_f c1 hf
    cases hf; exact frc_rf
theorem frc_X4_reckon {x0 x1 x2 : Int} {μ μ' : Mem} {r : Int} (hf : f_X4_reckon x0 x1 x2 μ = some (r, μ')) : FrC μ μ' := by
  unfold f_X4_reckon at hf
  rcases Decidable.em (nrm x0 = nrm 2) with c1 | c1
  · have hf := ite_t c1 hf
    exact frc_w_X4_reckon_31 hf
  · have hf := ite_f c1 hf
    rcases Decidable.em (nrm x0 = nrm 3) with c2 | c2
    · have hf := ite_t c2 hf
      exact frc_w_X4_reckon_31 hf
    · have hf := ite_f c2 hf
      exact frc_w_X4_reckon_31 hf
theorem frc_X4_compare {x0 x1 x2 : Int} {μ μ' : Mem} {r : Int} (hf : f_X4_compare x0 x1 x2 μ = some (r, μ')) : FrC μ μ' := by
  unfold f_X4_compare at hf
  rcases Decidable.em (nrm x0 = 5) with c1 | c1
  · have hf := ite_t c1 hf
    rcases Decidable.em (nrm x1 = nrm x2) with c2 | c2
    · have hf := ite_t c2 hf
      cases hf; exact frc_rf
    · have hf := ite_f c2 hf
      cases hf; exact frc_rf
  have hf := ite_f c1 hf
  rcases Decidable.em (nrm x0 = 6) with c3 | c3
  · have hf := ite_t c3 hf
    rcases Decidable.em (nrm x2 ≤ nrm x1) with c4 | c4
    · have hf := ite_t c4 hf
      cases hf; exact frc_rf
    · have hf := ite_f c4 hf
      cases hf; exact frc_rf
  have hf := ite_f c3 hf
  rcases Decidable.em (nrm x0 = 7) with c5 | c5
  · have hf := ite_t c5 hf
    rcases Decidable.em (nrm x1 ≤ nrm x2) with c6 | c6
    · have hf := ite_t c6 hf
      cases hf; exact frc_rf
    · have hf := ite_f c6 hf
      cases hf; exact frc_rf
  have hf := ite_f c5 hf
  rcases Decidable.em (nrm x0 = 9) with c7 | c7
  · have hf := ite_t c7 hf
    cases hf; exact frc_rf
  have hf := ite_f c7 hf
  cases hf; exact frc_rf
theorem frc_w_X4_tell_254 (k60 : Int → Int → Int → Mem → Option (Int × Mem)) (h60 : ∀ (x0 x3 x4 : Int) (μ μ' : Mem) (r : Int), isK x0 4 → k60 x0 x3 x4 μ = some (r, μ') → FrC μ μ') {x0 x3 x4 : Int} {μ μ' : Mem} {r : Int} (t0 : isK x0 4) (hf : f_X4_tell_j254 k60 x0 x3 x4 μ = some (r, μ')) : FrC μ μ' := by
  unfold f_X4_tell_j254 at hf
  exact h60 _ _ _ _ _ _ t0 hf
theorem frc_w_X4_tell_251 (k60 : Int → Int → Int → Mem → Option (Int × Mem)) (h60 : ∀ (x0 x3 x4 : Int) (μ μ' : Mem) (r : Int), isK x0 4 → k60 x0 x3 x4 μ = some (r, μ') → FrC μ μ') {x0 x3 x4 s0 s1 : Int} {μ μ' : Mem} {r : Int} (hb_s0 : s0 < 111) (t0 : isK x0 4) (hf : f_X4_tell_j251 k60 x0 x3 x4 s0 s1 μ = some (r, μ')) : FrC μ μ' := by
  unfold f_X4_tell_j251 at hf
  obtain ⟨g1, hf⟩ := gd_some hf
  obtain ⟨r3, μ2, e4, hf⟩ := bn_some hf
  have fq1 := (frc_X4_push g1 e4)
  exact fq1.trans (frc_w_X4_tell_254 _ h60 t0 hf)
theorem frc_w_X4_tell_205 (k60 : Int → Int → Int → Mem → Option (Int × Mem)) (h60 : ∀ (x0 x3 x4 : Int) (μ μ' : Mem) (r : Int), isK x0 4 → k60 x0 x3 x4 μ = some (r, μ') → FrC μ μ') {x0 x3 x4 s0 s1 : Int} {μ μ' : Mem} {r : Int} (hb_s0 : s0 < 111) (t0 : isK x0 4) (hf : f_X4_tell_j205 k60 x0 x3 x4 s0 s1 μ = some (r, μ')) : FrC μ μ' := by
  unfold f_X4_tell_j205 at hf
  obtain ⟨g1, hf⟩ := gd_some hf
  obtain ⟨r3, μ2, e4, hf⟩ := bn_some hf
  have fq2 := (frc_X4_push g1 e4)
  exact fq2.trans (frc_w_X4_tell_254 _ h60 t0 hf)
theorem frc_w_X4_tell_165 (k60 : Int → Int → Int → Mem → Option (Int × Mem)) (h60 : ∀ (x0 x3 x4 : Int) (μ μ' : Mem) (r : Int), isK x0 4 → k60 x0 x3 x4 μ = some (r, μ') → FrC μ μ') {x0 x3 x4 s0 s1 : Int} {μ μ' : Mem} {r : Int} (hb_s0 : s0 < 111) (t0 : isK x0 4) (hf : f_X4_tell_j165 k60 x0 x3 x4 s0 s1 μ = some (r, μ')) : FrC μ μ' := by
  unfold f_X4_tell_j165 at hf
  obtain ⟨g1, hf⟩ := gd_some hf
  obtain ⟨r3, μ2, e4, hf⟩ := bn_some hf
  have fq3 := (frc_X4_push g1 e4)
  exact fq3.trans (frc_w_X4_tell_254 _ h60 t0 hf)
theorem frc_w_X4_tell_139 (k60 : Int → Int → Int → Mem → Option (Int × Mem)) (h60 : ∀ (x0 x3 x4 : Int) (μ μ' : Mem) (r : Int), isK x0 4 → k60 x0 x3 x4 μ = some (r, μ') → FrC μ μ') {x0 x3 x4 s0 s1 : Int} {μ μ' : Mem} {r : Int} (hb_s0 : s0 < 111) (t0 : isK x0 4) (hf : f_X4_tell_j139 k60 x0 x3 x4 s0 s1 μ = some (r, μ')) : FrC μ μ' := by
  unfold f_X4_tell_j139 at hf
  obtain ⟨g1, hf⟩ := gd_some hf
  obtain ⟨r3, μ2, e4, hf⟩ := bn_some hf
  have fq4 := (frc_X4_push g1 e4)
  exact fq4.trans (frc_w_X4_tell_254 _ h60 t0 hf)
theorem frc_w_X4_tell_138 (k60 : Int → Int → Int → Mem → Option (Int × Mem)) (h60 : ∀ (x0 x3 x4 : Int) (μ μ' : Mem) (r : Int), isK x0 4 → k60 x0 x3 x4 μ = some (r, μ') → FrC μ μ') {x0 x3 x4 s0 : Int} {μ μ' : Mem} {r : Int} (hb_s0 : s0 < 111) (t0 : isK x0 4) (hf : f_X4_tell_j138 k60 x0 x3 x4 s0 μ = some (r, μ')) : FrC μ μ' := by
  unfold f_X4_tell_j138 at hf
  exact frc_w_X4_tell_139 _ h60 (by omega) t0 hf
theorem frc_w_X4_tell_60 : ∀ (n : Nat) (x0 x3 x4 : Int) (μ μ' : Mem) (r : Int), isK x0 4 → f_X4_tell_w60 n x0 x3 x4 μ = some (r, μ') → FrC μ μ' := by
  intro n
  induction n with
  | zero => intro x0 x3 x4 μ μ' r t0 hf; cases hf
  | succ n ih =>
    intro x0 x3 x4 μ μ' r t0 hf
    rw [f_X4_tell_w60.eq_2] at hf
    rcases Decidable.em (nrm x3 ≤ nrm x4) with c1 | c1
    · have hf := ite_t c1 hf
      obtain ⟨r3, μ2, e4, hf⟩ := bn_some hf
      have fq5 := (frc_X4_pop t0 e4)
      cases hf; exact fq5
    · have hf := ite_f c1 hf
      obtain ⟨g5, hf⟩ := gd_some hf
      obtain ⟨v6, e7, hf⟩ := nm_some hf
      obtain ⟨g8, hf⟩ := gd_some hf
      obtain ⟨v9, e10, hf⟩ := nm_some hf
      rcases Decidable.em (nrm v6 = 0) with c11 | c11
      · have hf := ite_t c11 hf
        obtain ⟨r46, μ45, e47, hf⟩ := bn_some hf
        have fq14 := (frc_X4_push t0 e47)
        exact fq14.trans (frc_w_X4_tell_254 _ ih t0 hf)
      · have hf := ite_f c11 hf
        rcases Decidable.em (nrm v6 = nrm 1) with c12 | c12
        · have hf := ite_t c12 hf
          rcases Decidable.em (nrm v9 < 0) with c42 | c42
          · have hf := ite_t c42 hf
            exact frc_w_X4_tell_138 _ ih (by have := bd_4 t0; omega) t0 hf
          · have hf := ite_f c42 hf
            rcases Decidable.em (nrm 6 ≤ nrm v9) with c43 | c43
            · have hf := ite_t c43 hf
              exact frc_w_X4_tell_138 _ ih (by have := bd_4 t0; omega) t0 hf
            · have hf := ite_f c43 hf
              obtain ⟨g44, hf⟩ := gd_some hf
              exact frc_w_X4_tell_139 _ ih (by have := bd_4 t0; omega) t0 hf
        · have hf := ite_f c12 hf
          rcases Decidable.em (nrm v6 = nrm 8) with c13 | c13
          · have hf := ite_t c13 hf
            obtain ⟨r39, μ38, e40, hf⟩ := bn_some hf
            have fq13 := (frc_X4_pop t0 e40)
            rcases Decidable.em (nrm r39 = 0) with c41 | c41
            · have hf := ite_t c41 hf
              exact fq13.trans (frc_w_X4_tell_165 _ ih (by have := bd_4 t0; omega) t0 hf)
            · have hf := ite_f c41 hf
              exact fq13.trans (frc_w_X4_tell_165 _ ih (by have := bd_4 t0; omega) t0 hf)
          · have hf := ite_f c13 hf
            rcases Decidable.em (nrm v6 = nrm 11) with c14 | c14
            · have hf := ite_t c14 hf
              obtain ⟨r29, μ28, e30, hf⟩ := bn_some hf
              have fq10 := (frc_X4_pop t0 e30)
              obtain ⟨r32, μ31, e33, hf⟩ := bn_some hf
              have fq11 := fq10.trans (frc_X4_pop t0 e33)
              obtain ⟨r35, μ34, e36, hf⟩ := bn_some hf
              have fq12 := fq11.trans (frc_X4_pop t0 e36)
              rcases Decidable.em (nrm r35 = 0) with c37 | c37
              · have hf := ite_t c37 hf
                exact fq12.trans (frc_w_X4_tell_205 _ ih (by have := bd_4 t0; omega) t0 hf)
              · have hf := ite_f c37 hf
                exact fq12.trans (frc_w_X4_tell_205 _ ih (by have := bd_4 t0; omega) t0 hf)
            · have hf := ite_f c14 hf
              obtain ⟨r16, μ15, e17, hf⟩ := bn_some hf
              have fq6 := (frc_X4_pop t0 e17)
              obtain ⟨r19, μ18, e20, hf⟩ := bn_some hf
              have fq7 := fq6.trans (frc_X4_pop t0 e20)
              rcases Decidable.em (nrm 5 ≤ nrm v6) with c21 | c21
              · have hf := ite_t c21 hf
                obtain ⟨r23, μ22, e24, hf⟩ := bn_some hf
                have fq8 := fq7.trans (frc_X4_compare e24)
                exact fq8.trans (frc_w_X4_tell_251 _ ih (by have := bd_4 t0; omega) t0 hf)
              · have hf := ite_f c21 hf
                obtain ⟨r26, μ25, e27, hf⟩ := bn_some hf
                have fq9 := fq7.trans (frc_X4_reckon e27)
                exact fq9.trans (frc_w_X4_tell_251 _ ih (by have := bd_4 t0; omega) t0 hf)
theorem frc_w_X4_tell_56 {x0 x2 s0 : Int} {μ μ' : Mem} {r : Int} (t0 : isK x0 4) (hf : f_X4_tell_j56 x0 x2 s0 μ = some (r, μ')) : FrC μ μ' := by
  unfold f_X4_tell_j56 at hf
  exact frc_w_X4_tell_60 FU _ _ _ _ _ _ t0 hf
theorem frc_w_X4_tell_38 {x0 x2 : Int} {μ μ' : Mem} {r : Int} (t0 : isK x0 4) (hf : f_X4_tell_j38 x0 x2 μ = some (r, μ')) : FrC μ μ' := by
  unfold f_X4_tell_j38 at hf
  exact frc_w_X4_tell_56 t0 hf
theorem frc_w_X4_tell_28 {x0 x1 s0 : Int} {μ μ' : Mem} {r : Int} (t0 : isK x0 4) (hf : f_X4_tell_j28 x0 x1 s0 μ = some (r, μ')) : FrC μ μ' := by
  unfold f_X4_tell_j28 at hf
  rcases Decidable.em (nrm x1 < 0) with c1 | c1
  · have hf := ite_t c1 hf
    exact frc_w_X4_tell_38 t0 hf
  · have hf := ite_f c1 hf
    rcases Decidable.em (nrm x1 < nrm 2) with c2 | c2
    · have hf := ite_t c2 hf
      obtain ⟨g3, hf⟩ := gd_some hf
      obtain ⟨r5, μ4, e6, hf⟩ := bn_some hf
      have fq15 := (frc_J9_min_7cf53 e6)
      exact fq15.trans (frc_w_X4_tell_56 t0 hf)
    · have hf := ite_f c2 hf
      exact frc_w_X4_tell_38 t0 hf
theorem frc_w_X4_tell_14 {x0 x1 : Int} {μ μ' : Mem} {r : Int} (t0 : isK x0 4) (hf : f_X4_tell_j14 x0 x1 μ = some (r, μ')) : FrC μ μ' := by
  unfold f_X4_tell_j14 at hf
  exact frc_w_X4_tell_28 t0 hf
theorem frc_X4_tell {x0 x1 : Int} {μ μ' : Mem} {r : Int} (t0 : isK x0 4) (hf : f_X4_tell x0 x1 μ = some (r, μ')) : FrC μ μ' := by
  unfold f_X4_tell at hf
  obtain ⟨μ1, e2, hf⟩ := nm_some hf
  have fq16 := (frc_ms (by have := bd_4 t0; omega) e2)
  rcases Decidable.em (nrm x1 < 0) with c3 | c3
  · have hf := ite_t c3 hf
    exact fq16.trans (frc_w_X4_tell_14 t0 hf)
  · have hf := ite_f c3 hf
    rcases Decidable.em (nrm x1 < nrm 2) with c4 | c4
    · have hf := ite_t c4 hf
      obtain ⟨g5, hf⟩ := gd_some hf
      obtain ⟨r7, μ6, e8, hf⟩ := bn_some hf
      have fq17 := fq16.trans (frc_J9_max_7cf53 e8)
      exact fq17.trans (frc_w_X4_tell_28 t0 hf)
    · have hf := ite_f c4 hf
      exact fq16.trans (frc_w_X4_tell_14 t0 hf)
theorem frc_X3_mayGo {x0 x1 x2 x3 : Int} {μ μ' : Mem} {r : Int} (t0 : isK x0 3) (hf : f_X3_mayGo x0 x1 x2 x3 μ = some (r, μ')) : FrC μ μ' := by
  unfold f_X3_mayGo at hf
  obtain ⟨r2, μ1, e3, hf⟩ := bn_some hf
  have fq1 := (frc_X3_hasLane t0 e3)
  rcases Decidable.em (nrm r2 = 0) with c4 | c4
  · have hf := ite_t c4 hf
    cases hf; exact fq1
  · have hf := ite_f c4 hf
    obtain ⟨r6, μ5, e7, hf⟩ := bn_some hf
    have fq2 := fq1.trans (frc_X4_hasLaw (ow_3_14 t0) e7)
    rcases Decidable.em (nrm r6 = 0) with c8 | c8
    · have hf := ite_t c8 hf
      rcases Decidable.em (nrm (μ5 x0 5) < nrm x2) with c21 | c21
      · have hf := ite_t c21 hf
        cases hf; exact fq2
      · have hf := ite_f c21 hf
        cases hf; exact fq2
    · have hf := ite_f c8 hf
      obtain ⟨g9, hf⟩ := gd_some hf
      obtain ⟨g10, hf⟩ := gd_some hf
      obtain ⟨r12, μ11, e13, hf⟩ := bn_some hf
      have fq3 := fq2.trans (frc_J6_bitCount_0f7a4 e13)
      obtain ⟨r15, μ14, e16, hf⟩ := bn_some hf
      have fq4 := fq3.trans (frc_X4_look (ow_3_14 t0) e16)
      obtain ⟨r18, μ17, e19, hf⟩ := bn_some hf
      have fq5 := fq4.trans (frc_X4_tell (ow_3_14 t0) e19)
      rcases Decidable.em (nrm r18 = 0) with c20 | c20
      · have hf := ite_t c20 hf
        cases hf; exact fq5
      · have hf := ite_f c20 hf
        cases hf; exact fq5
theorem frc_X0_isOpen {x0 x1 : Int} {μ μ' : Mem} {r : Int} (t0 : isK x0 0) (hf : f_X0_isOpen x0 x1 μ = some (r, μ')) : FrC μ μ' := by
  unfold f_X0_isOpen at hf
  obtain ⟨g1, hf⟩ := gd_some hf
  obtain ⟨r3, μ2, e4, hf⟩ := bn_some hf
  have fq1 := (frc_X3_hasLane g1 e4)
  rcases Decidable.em (nrm r3 = 0) with c5 | c5
  · have hf := ite_t c5 hf
    cases hf; exact fq1
  · have hf := ite_f c5 hf
    obtain ⟨g6, hf⟩ := gd_some hf
    obtain ⟨g7, hf⟩ := gd_some hf
    obtain ⟨r9, μ8, e10, hf⟩ := bn_some hf
    have fq2 := fq1.trans (frc_X3_mayGo g7 e10)
    rcases Decidable.em (nrm r9 = 0) with c11 | c11
    · have hf := ite_t c11 hf
      cases hf; exact fq2
    · have hf := ite_f c11 hf
      cases hf; exact fq2
theorem frc_w_X0_openLanes_45 (k4 : Int → Int → Int → Mem → Option (Int × Mem)) (h4 : ∀ (x0 x1 x2 : Int) (μ μ' : Mem) (r : Int), isK x0 0 → k4 x0 x1 x2 μ = some (r, μ') → FrC μ μ') {x0 x1 x2 : Int} {μ μ' : Mem} {r : Int} (t0 : isK x0 0) (hf : f_X0_openLanes_j45 k4 x0 x1 x2 μ = some (r, μ')) : FrC μ μ' := by
  unfold f_X0_openLanes_j45 at hf
  exact h4 _ _ _ _ _ _ t0 hf
theorem frc_w_X0_openLanes_4 : ∀ (n : Nat) (x0 x1 x2 : Int) (μ μ' : Mem) (r : Int), isK x0 0 → f_X0_openLanes_w4 n x0 x1 x2 μ = some (r, μ') → FrC μ μ' := by
  intro n
  induction n with
  | zero => intro x0 x1 x2 μ μ' r t0 hf; cases hf
  | succ n ih =>
    intro x0 x1 x2 μ μ' r t0 hf
    rw [f_X0_openLanes_w4.eq_2] at hf
    obtain ⟨g1, hf⟩ := gd_some hf
    rcases Decidable.em (nrm (μ (μ x0 0) 1) ≤ nrm x2) with c2 | c2
    · have hf := ite_t c2 hf
      cases hf; exact frc_rf
    · have hf := ite_f c2 hf
      rcases Decidable.em (nrm 9 ≤ nrm x2) with c3 | c3
      · have hf := ite_t c3 hf
        cases hf; exact frc_rf
      · have hf := ite_f c3 hf
        obtain ⟨g4, hf⟩ := gd_some hf
        obtain ⟨r6, μ5, e7, hf⟩ := bn_some hf
        have fq1 := (frc_X3_mayGo g1 e7)
        rcases Decidable.em (nrm r6 = 0) with c8 | c8
        · have hf := ite_t c8 hf
          exact fq1.trans (frc_w_X0_openLanes_45 _ ih t0 hf)
        · have hf := ite_f c8 hf
          obtain ⟨v9, e10, hf⟩ := nm_some hf
          exact fq1.trans (frc_w_X0_openLanes_45 _ ih t0 hf)
theorem frc_X0_openLanes {x0 : Int} {μ μ' : Mem} {r : Int} (t0 : isK x0 0) (hf : f_X0_openLanes x0 μ = some (r, μ')) : FrC μ μ' := by
  unfold f_X0_openLanes at hf
  exact frc_w_X0_openLanes_4 FU _ _ _ _ _ _ t0 hf
theorem frc_w_X0_fillingsOf_6 : ∀ (n : Nat) (x0 x1 x2 : Int) (μ μ' : Mem) (r : Int), isK x0 0 → f_X0_fillingsOf_w6 n x0 x1 x2 μ = some (r, μ') → FrC μ μ' := by
  intro n
  induction n with
  | zero => intro x0 x1 x2 μ μ' r t0 hf; cases hf
  | succ n ih =>
    intro x0 x1 x2 μ μ' r t0 hf
    rw [f_X0_fillingsOf_w6.eq_2] at hf
    rcases Decidable.em (nrm x2 < 0) with c1 | c1
    · have hf := ite_t c1 hf
      cases hf; exact frc_rf
    · have hf := ite_f c1 hf
      obtain ⟨g2, hf⟩ := gd_some hf
      obtain ⟨r4, μ3, e5, hf⟩ := bn_some hf
      have fq1 := (frc_X3_mayGo g2 e5)
      rcases Decidable.em (nrm r4 = 0) with c6 | c6
      · have hf := ite_t c6 hf
        exact fq1.trans (ih _ _ _ _ _ _ t0 hf)
      · have hf := ite_f c6 hf
        obtain ⟨r8, μ7, e9, hf⟩ := bn_some hf
        have fq2 := fq1.trans (frc_X0_depthOf t0 e9)
        cases hf; exact fq2
theorem frc_X0_fillingsOf {x0 x1 : Int} {μ μ' : Mem} {r : Int} (t0 : isK x0 0) (hf : f_X0_fillingsOf x0 x1 μ = some (r, μ')) : FrC μ μ' := by
  unfold f_X0_fillingsOf at hf
  obtain ⟨r2, μ1, e3, hf⟩ := bn_some hf
  have fq3 := (frc_X0_depthOf t0 e3)
  exact fq3.trans (frc_w_X0_fillingsOf_6 FU _ _ _ _ _ _ t0 hf)
theorem frc_X3_otherEnd {x0 x1 x2 : Int} {μ μ' : Mem} {r : Int} (t0 : isK x0 3) (hf : f_X3_otherEnd x0 x1 x2 μ = some (r, μ')) : FrC μ μ' := by
  unfold f_X3_otherEnd at hf
  obtain ⟨r2, μ1, e3, hf⟩ := bn_some hf
  have fq1 := (frc_X3_hasLane t0 e3)
  rcases Decidable.em (nrm r2 = 0) with c4 | c4
  · have hf := ite_t c4 hf
    cases hf; exact fq1
  · have hf := ite_f c4 hf
    obtain ⟨g5, hf⟩ := gd_some hf
    rcases Decidable.em (nrm (μ1 (x0 + 1) (nrm x1)) = nrm x2) with c6 | c6
    · have hf := ite_t c6 hf
      obtain ⟨g10, hf⟩ := gd_some hf
      cases hf; exact fq1
    · have hf := ite_f c6 hf
      obtain ⟨g7, hf⟩ := gd_some hf
      rcases Decidable.em (nrm (μ1 (x0 + 2) (nrm x1)) = nrm x2) with c8 | c8
      · have hf := ite_t c8 hf
        obtain ⟨g9, hf⟩ := gd_some hf
        cases hf; exact fq1
      · have hf := ite_f c8 hf
        cases hf; exact fq1
theorem frc_X0_whyNoGoing {x0 x1 : Int} {μ μ' : Mem} {r : Int} (t0 : isK x0 0) (hf : f_X0_whyNoGoing x0 x1 μ = some (r, μ')) : FrC μ μ' := by
  unfold f_X0_whyNoGoing at hf
  obtain ⟨g1, hf⟩ := gd_some hf
  obtain ⟨r3, μ2, e4, hf⟩ := bn_some hf
  have fq1 := (frc_X3_hasLane g1 e4)
  rcases Decidable.em (nrm r3 = 0) with c5 | c5
  · have hf := ite_t c5 hf
    cases hf; exact fq1
  · have hf := ite_f c5 hf
    obtain ⟨g6, hf⟩ := gd_some hf
    obtain ⟨r8, μ7, e9, hf⟩ := bn_some hf
    have fq2 := fq1.trans (frc_X3_otherEnd g6 e9)
    rcases Decidable.em (nrm r8 = nrm (-1)) with c10 | c10
    · have hf := ite_t c10 hf
      cases hf; exact fq2
    · have hf := ite_f c10 hf
      obtain ⟨g11, hf⟩ := gd_some hf
      obtain ⟨g12, hf⟩ := gd_some hf
      obtain ⟨r14, μ13, e15, hf⟩ := bn_some hf
      have fq3 := fq2.trans (frc_X3_mayGo g12 e15)
      rcases Decidable.em (nrm r14 = 0) with c16 | c16
      · have hf := ite_t c16 hf
        cases hf; exact fq3
      · have hf := ite_f c16 hf
        cases hf; exact fq3
theorem frc_X3_wornFrom {x0 x1 x2 x3 : Int} {μ μ' : Mem} {r : Int} (t0 : isK x0 3) (hf : f_X3_wornFrom x0 x1 x2 x3 μ = some (r, μ')) : FrC μ μ' := by
  unfold f_X3_wornFrom at hf
  obtain ⟨r2, μ1, e3, hf⟩ := bn_some hf
  have fq1 := (frc_X3_hasLane t0 e3)
  rcases Decidable.em (nrm r2 = 0) with c4 | c4
  · have hf := ite_t c4 hf
    cases hf; exact fq1
  · have hf := ite_f c4 hf
    obtain ⟨r6, μ5, e7, hf⟩ := bn_some hf
    have fq2 := fq1.trans (frc_X4_hasLaw (ow_3_14 t0) e7)
    rcases Decidable.em (nrm r6 = 0) with c8 | c8
    · have hf := ite_t c8 hf
      obtain ⟨g22, hf⟩ := gd_some hf
      rcases Decidable.em (nrm ((μ5 (x0 + 4) (nrm x1)) + x3) ≤ nrm 5) with c23 | c23
      · have hf := ite_t c23 hf
        cases hf; exact fq2
      · have hf := ite_f c23 hf
        obtain ⟨r25, μ24, e26, hf⟩ := bn_some hf
        have fq7 := fq2.trans (frc_J9_min_7cf53 e26)
        cases hf; exact fq7
    · have hf := ite_f c8 hf
      obtain ⟨g9, hf⟩ := gd_some hf
      obtain ⟨r11, μ10, e12, hf⟩ := bn_some hf
      have fq3 := fq2.trans (frc_X4_look (ow_3_14 t0) e12)
      obtain ⟨r14, μ13, e15, hf⟩ := bn_some hf
      have fq4 := fq3.trans (frc_X4_tell (ow_3_14 t0) e15)
      obtain ⟨r17, μ16, e18, hf⟩ := bn_some hf
      have fq5 := fq4.trans (frc_J9_min_7cf53 e18)
      obtain ⟨r20, μ19, e21, hf⟩ := bn_some hf
      have fq6 := fq5.trans (frc_J9_max_7cf53 e21)
      cases hf; exact fq6
theorem frc_X0_goBy {x0 x1 : Int} {μ μ' : Mem} {r : Int} (t0 : isK x0 0) (hf : f_X0_goBy x0 x1 μ = some (r, μ')) : FrC μ μ' := by
  unfold f_X0_goBy at hf
  obtain ⟨g1, hf⟩ := gd_some hf
  obtain ⟨r3, μ2, e4, hf⟩ := bn_some hf
  have fq1 := (frc_X3_otherEnd g1 e4)
  rcases Decidable.em (nrm r3 = nrm (-1)) with c5 | c5
  · have hf := ite_t c5 hf
    cases hf; exact fq1
  · have hf := ite_f c5 hf
    obtain ⟨g6, hf⟩ := gd_some hf
    obtain ⟨r8, μ7, e9, hf⟩ := bn_some hf
    have fq2 := fq1.trans (frc_X3_hasLane g6 e9)
    rcases Decidable.em (nrm r8 = 0) with c10 | c10
    · have hf := ite_t c10 hf
      cases hf; exact fq2
    · have hf := ite_f c10 hf
      obtain ⟨μ11, e12, hf⟩ := nm_some hf
      have fq3 := fq2.trans (frc_ms (by have := bd_0 t0; omega) e12)
      obtain ⟨g13, hf⟩ := gd_some hf
      obtain ⟨g14, hf⟩ := gd_some hf
      obtain ⟨r16, μ15, e17, hf⟩ := bn_some hf
      have fq4 := fq3.trans (frc_X3_wornFrom g14 e17)
      obtain ⟨g20, hf⟩ := gd_some hf
      obtain ⟨μ18, e19, hf⟩ := nm_some hf
      have fq5 := fq4.trans (frc_ms (by have := bd_0 t0; omega) e19)
      obtain ⟨μ21, e22, hf⟩ := nm_some hf
      have fq6 := fq5.trans (frc_ms (by have := bd_0 t0; omega) e22)
      cases hf; exact fq6
theorem frc_X0_tryDepth {x0 x1 x2 : Int} {μ μ' : Mem} {r : Int} (t0 : isK x0 0) (hf : f_X0_tryDepth x0 x1 x2 μ = some (r, μ')) : FrC μ μ' := by
  unfold f_X0_tryDepth at hf
  obtain ⟨g1, hf⟩ := gd_some hf
  obtain ⟨r3, μ2, e4, hf⟩ := bn_some hf
  have fq1 := (frc_X3_hasLane g1 e4)
  rcases Decidable.em (nrm r3 = 0) with c5 | c5
  · have hf := ite_t c5 hf
    cases hf; exact fq1
  · have hf := ite_f c5 hf
    obtain ⟨g6, hf⟩ := gd_some hf
    rcases Decidable.em (nrm ((μ2 (x0 + 1) (nrm x1)) + x2) < 0) with c7 | c7
    · have hf := ite_t c7 hf
      cases hf; exact fq1
    · have hf := ite_f c7 hf
      obtain ⟨g8, hf⟩ := gd_some hf
      rcases Decidable.em (nrm ((μ2 (x0 + 1) (nrm x1)) + x2) ≤ nrm 6) with c9 | c9
      · have hf := ite_t c9 hf
        obtain ⟨g10, hf⟩ := gd_some hf
        obtain ⟨g13, hf⟩ := gd_some hf
        obtain ⟨μ11, e12, hf⟩ := nm_some hf
        have fq2 := fq1.trans (frc_ms (by have := bd_0 t0; omega) e12)
        cases hf; exact fq2
      · have hf := ite_f c9 hf
        cases hf; exact fq1
theorem frc_X0_tryTurning {x0 x1 : Int} {μ μ' : Mem} {r : Int} (t0 : isK x0 0) (hf : f_X0_tryTurning x0 x1 μ = some (r, μ')) : FrC μ μ' := by
  unfold f_X0_tryTurning at hf
  rcases Decidable.em (nrm x1 < 0) with c1 | c1
  · have hf := ite_t c1 hf
    cases hf; exact frc_rf
  · have hf := ite_f c1 hf
    obtain ⟨g2, hf⟩ := gd_some hf
    rcases Decidable.em (nrm x1 < nrm (μ (μ x0 0) 2)) with c3 | c3
    · have hf := ite_t c3 hf
      obtain ⟨μ4, e5, hf⟩ := nm_some hf
      have fq1 := (frc_ms (by have := bd_0 t0; omega) e5)
      cases hf; exact fq1
    · have hf := ite_f c3 hf
      cases hf; exact frc_rf
theorem frc_w_X3_backBehindSeason_44 (k10 : Int → Int → Int → Int → Mem → Option (Int × Mem)) (h10 : ∀ (x0 x2 x3 x4 : Int) (μ μ' : Mem) (r : Int), isK x0 3 → k10 x0 x2 x3 x4 μ = some (r, μ') → FrC μ μ') {x0 x2 x3 x4 : Int} {μ μ' : Mem} {r : Int} (t0 : isK x0 3) (hf : f_X3_backBehindSeason_j44 k10 x0 x2 x3 x4 μ = some (r, μ')) : FrC μ μ' := by
  unfold f_X3_backBehindSeason_j44 at hf
  exact h10 _ _ _ _ _ _ _ t0 hf
theorem frc_w_X3_backBehindSeason_10 : ∀ (n : Nat) (x0 x2 x3 x4 : Int) (μ μ' : Mem) (r : Int), isK x0 3 → f_X3_backBehindSeason_w10 n x0 x2 x3 x4 μ = some (r, μ') → FrC μ μ' := by
  intro n
  induction n with
  | zero => intro x0 x2 x3 x4 μ μ' r t0 hf; cases hf
  | succ n ih =>
    intro x0 x2 x3 x4 μ μ' r t0 hf
    rw [f_X3_backBehindSeason_w10.eq_2] at hf
    rcases Decidable.em (nrm (μ x0 2) ≤ nrm x4) with c1 | c1
    · have hf := ite_t c1 hf
      cases hf; exact frc_rf
    · have hf := ite_f c1 hf
      rcases Decidable.em (nrm 8 ≤ nrm x4) with c2 | c2
      · have hf := ite_t c2 hf
        cases hf; exact frc_rf
      · have hf := ite_f c2 hf
        obtain ⟨g3, hf⟩ := gd_some hf
        rcases Decidable.em (nrm x2 < nrm (μ (x0 + 6) (nrm x4))) with c4 | c4
        · have hf := ite_t c4 hf
          exact frc_w_X3_backBehindSeason_44 _ ih t0 hf
        · have hf := ite_f c4 hf
          obtain ⟨v5, e6, hf⟩ := nm_some hf
          exact frc_w_X3_backBehindSeason_44 _ ih t0 hf
theorem frc_X3_backBehindSeason {x0 x1 : Int} {μ μ' : Mem} {r : Int} (t0 : isK x0 3) (hf : f_X3_backBehindSeason x0 x1 μ = some (r, μ')) : FrC μ μ' := by
  unfold f_X3_backBehindSeason at hf
  obtain ⟨r2, μ1, e3, hf⟩ := bn_some hf
  have fq1 := (frc_J6_bitCount_0f7a4 e3)
  exact fq1.trans (frc_w_X3_backBehindSeason_10 FU _ _ _ _ _ _ _ t0 hf)
theorem frc_X0_tryDeed {x0 x1 : Int} {μ μ' : Mem} {r : Int} (t0 : isK x0 0) (hf : f_X0_tryDeed x0 x1 μ = some (r, μ')) : FrC μ μ' := by
  unfold f_X0_tryDeed at hf
  rcases Decidable.em (nrm (kcmp x1 0) < 0) with c1 | c1
  · have hf := ite_t c1 hf
    cases hf; exact frc_rf
  · have hf := ite_f c1 hf
    rcases Decidable.em (nrm (kcmp x1 50) ≤ 0) with c2 | c2
    · have hf := ite_t c2 hf
      obtain ⟨v3, e4, hf⟩ := nm_some hf
      rcases Decidable.em (nrm (x1 - (nrm v3)) = 0) with c5 | c5
      · have hf := ite_t c5 hf
        obtain ⟨r7, μ6, e8, hf⟩ := bn_some hf
        have fq1 := (frc_X0_whyNoGoing t0 e8)
        rcases Decidable.em (nrm r7 = 0) with c9 | c9
        · have hf := ite_t c9 hf
          obtain ⟨r11, μ10, e12, hf⟩ := bn_some hf
          have fq2 := fq1.trans (frc_X0_goBy t0 e12)
          cases hf; exact fq2
        · have hf := ite_f c9 hf
          cases hf; exact fq1
      have hf := ite_f c5 hf
      rcases Decidable.em (nrm (x1 - (nrm v3)) = 10) with c13 | c13
      · have hf := ite_t c13 hf
        obtain ⟨r15, μ14, e16, hf⟩ := bn_some hf
        have fq3 := (frc_X0_tryDepth t0 e16)
        cases hf; exact fq3
      have hf := ite_f c13 hf
      rcases Decidable.em (nrm (x1 - (nrm v3)) = 20) with c17 | c17
      · have hf := ite_t c17 hf
        obtain ⟨r19, μ18, e20, hf⟩ := bn_some hf
        have fq4 := (frc_X0_tryDepth t0 e20)
        cases hf; exact fq4
      have hf := ite_f c17 hf
      rcases Decidable.em (nrm (x1 - (nrm v3)) = 30) with c21 | c21
      · have hf := ite_t c21 hf
        obtain ⟨μ22, e23, hf⟩ := nm_some hf
        have fq5 := (frc_ms (by have := bd_0 t0; omega) e23)
        cases hf; exact fq5
      have hf := ite_f c21 hf
      rcases Decidable.em (nrm (x1 - (nrm v3)) = 40) with c24 | c24
      · have hf := ite_t c24 hf
        obtain ⟨r26, μ25, e27, hf⟩ := bn_some hf
        have fq6 := (frc_X0_tryTurning t0 e27)
        cases hf; exact fq6
      have hf := ite_f c24 hf
      obtain ⟨g28, hf⟩ := gd_some hf
      obtain ⟨r30, μ29, e31, hf⟩ := bn_some hf
      have fq7 := (frc_X3_backBehindSeason g28 e31)
      obtain ⟨μ32, e33, hf⟩ := nm_some hf
      have fq8 := fq7.trans (frc_ms (by have := bd_0 t0; omega) e33)
      cases hf; exact fq8
    · have hf := ite_f c2 hf
      cases hf; exact frc_rf
theorem frc_X1_leadsToLoss {x0 x1 x2 x3 x4 x5 : Int} {μ μ' : Mem} {r : Int} (t0 : isK x0 1) (hf : f_X1_leadsToLoss x0 x1 x2 x3 x4 x5 μ = some (r, μ')) : FrC μ μ' := by
  unfold f_X1_leadsToLoss at hf
  obtain ⟨g1, hf⟩ := gd_some hf
  obtain ⟨r3, μ2, e4, hf⟩ := bn_some hf
  have fq1 := (frc_X3_otherEnd g1 e4)
  obtain ⟨v5, e6, hf⟩ := nm_some hf
  rcases Decidable.em (nrm r3 = nrm (-1)) with c7 | c7
  · have hf := ite_t c7 hf
    cases hf; exact fq1
  · have hf := ite_f c7 hf
    rcases Decidable.em (nrm v5 = nrm x3) with c8 | c8
    · have hf := ite_t c8 hf
      cases hf; exact fq1
    · have hf := ite_f c8 hf
      rcases Decidable.em (nrm (jand (jshr x2 x4) 1) = 0) with c9 | c9
      · have hf := ite_t c9 hf
        cases hf; exact fq1
      · have hf := ite_f c9 hf
        rcases Decidable.em (nrm v5 < 0) with c10 | c10
        · have hf := ite_t c10 hf
          cases hf; exact fq1
        · have hf := ite_f c10 hf
          rcases Decidable.em (nrm v5 < nrm 512) with c11 | c11
          · have hf := ite_t c11 hf
            obtain ⟨g12, hf⟩ := gd_some hf
            rcases Decidable.em (nrm (jand (jshr (μ2 (x0 + 1) (nrm v5)) r3) 1) = 0) with c13 | c13
            · have hf := ite_t c13 hf
              cases hf; exact fq1
            · have hf := ite_f c13 hf
              cases hf; exact fq1
          · have hf := ite_f c11 hf
            cases hf; exact fq1
theorem frc_w_X1_wonBehind_88 (k6 : Int → Int → Int → Int → Int → Int → Mem → Option (Int × Mem)) (h6 : ∀ (x0 x1 x2 x3 x4 x5 : Int) (μ μ' : Mem) (r : Int), isK x0 1 → k6 x0 x1 x2 x3 x4 x5 μ = some (r, μ') → FrC μ μ') {x0 x1 x2 x3 x4 x5 : Int} {μ μ' : Mem} {r : Int} (t0 : isK x0 1) (hf : f_X1_wonBehind_j88 k6 x0 x1 x2 x3 x4 x5 μ = some (r, μ')) : FrC μ μ' := by
  unfold f_X1_wonBehind_j88 at hf
  exact h6 _ _ _ _ _ _ _ _ _ t0 hf
theorem frc_w_X1_wonBehind_55 (k6 : Int → Int → Int → Int → Int → Int → Mem → Option (Int × Mem)) (h6 : ∀ (x0 x1 x2 x3 x4 x5 : Int) (μ μ' : Mem) (r : Int), isK x0 1 → k6 x0 x1 x2 x3 x4 x5 μ = some (r, μ') → FrC μ μ') {x0 x1 x2 x3 x4 x5 : Int} {μ μ' : Mem} {r : Int} (t0 : isK x0 1) (hf : f_X1_wonBehind_j55 k6 x0 x1 x2 x3 x4 x5 μ = some (r, μ')) : FrC μ μ' := by
  unfold f_X1_wonBehind_j55 at hf
  obtain ⟨g1, hf⟩ := gd_some hf
  obtain ⟨g2, hf⟩ := gd_some hf
  obtain ⟨r4, μ3, e5, hf⟩ := bn_some hf
  have fq1 := (frc_X1_leadsToLoss t0 e5)
  rcases Decidable.em (nrm r4 = 0) with c6 | c6
  · have hf := ite_t c6 hf
    exact fq1.trans (frc_w_X1_wonBehind_88 _ h6 t0 hf)
  · have hf := ite_f c6 hf
    obtain ⟨g7, hf⟩ := gd_some hf
    obtain ⟨v8, e9, hf⟩ := nm_some hf
    exact fq1.trans (frc_w_X1_wonBehind_88 _ h6 t0 hf)
theorem frc_w_X1_wonBehind_6 : ∀ (n : Nat) (x0 x1 x2 x3 x4 x5 : Int) (μ μ' : Mem) (r : Int), isK x0 1 → f_X1_wonBehind_w6 n x0 x1 x2 x3 x4 x5 μ = some (r, μ') → FrC μ μ' := by
  intro n
  induction n with
  | zero => intro x0 x1 x2 x3 x4 x5 μ μ' r t0 hf; cases hf
  | succ n ih =>
    intro x0 x1 x2 x3 x4 x5 μ μ' r t0 hf
    rw [f_X1_wonBehind_w6.eq_2] at hf
    obtain ⟨g1, hf⟩ := gd_some hf
    rcases Decidable.em (nrm (μ x1 1) ≤ nrm x5) with c2 | c2
    · have hf := ite_t c2 hf
      cases hf; exact frc_rf
    · have hf := ite_f c2 hf
      rcases Decidable.em (nrm 9 ≤ nrm x5) with c3 | c3
      · have hf := ite_t c3 hf
        cases hf; exact frc_rf
      · have hf := ite_f c3 hf
        obtain ⟨g4, hf⟩ := gd_some hf
        obtain ⟨r6, μ5, e7, hf⟩ := bn_some hf
        have fq2 := (frc_X1_leadsToLoss t0 e7)
        rcases Decidable.em (nrm r6 = 0) with c8 | c8
        · have hf := ite_t c8 hf
          exact fq2.trans (frc_w_X1_wonBehind_55 _ ih t0 hf)
        · have hf := ite_f c8 hf
          obtain ⟨g9, hf⟩ := gd_some hf
          obtain ⟨v10, e11, hf⟩ := nm_some hf
          exact fq2.trans (frc_w_X1_wonBehind_55 _ ih t0 hf)
theorem frc_X1_wonBehind {x0 x1 x2 x3 : Int} {μ μ' : Mem} {r : Int} (t0 : isK x0 1) (hf : f_X1_wonBehind x0 x1 x2 x3 μ = some (r, μ')) : FrC μ μ' := by
  unfold f_X1_wonBehind at hf
  exact frc_w_X1_wonBehind_6 FU _ _ _ _ _ _ _ _ _ t0 hf
theorem frc_w_X1_firstWinning_59 : ∀ (n : Nat) (x0 x1 x2 x3 x4 : Int) (μ μ' : Mem) (r : Int), isK x0 1 → f_X1_firstWinning_w59 n x0 x1 x2 x3 x4 μ = some (r, μ') → FrC μ μ' := by
  intro n
  induction n with
  | zero => intro x0 x1 x2 x3 x4 μ μ' r t0 hf; cases hf
  | succ n ih =>
    intro x0 x1 x2 x3 x4 μ μ' r t0 hf
    rw [f_X1_firstWinning_w59.eq_2] at hf
    obtain ⟨g1, hf⟩ := gd_some hf
    rcases Decidable.em (nrm (μ x2 1) ≤ nrm x4) with c2 | c2
    · have hf := ite_t c2 hf
      cases hf; exact frc_rf
    · have hf := ite_f c2 hf
      obtain ⟨g3, hf⟩ := gd_some hf
      obtain ⟨r5, μ4, e6, hf⟩ := bn_some hf
      have fq1 := (frc_X1_leadsToLoss t0 e6)
      rcases Decidable.em (nrm r5 = 0) with c7 | c7
      · have hf := ite_t c7 hf
        exact fq1.trans (ih _ _ _ _ _ _ _ _ t0 hf)
      · have hf := ite_f c7 hf
        cases hf; exact fq1
theorem frc_w_X1_firstWinning_50 (k20 : Int → Int → Int → Int → Int → Mem → Option (Int × Mem)) (h20 : ∀ (x0 x1 x2 x3 x4 : Int) (μ μ' : Mem) (r : Int), isK x0 1 → k20 x0 x1 x2 x3 x4 μ = some (r, μ') → FrC μ μ') {x0 x1 x2 x3 x4 : Int} {μ μ' : Mem} {r : Int} (t0 : isK x0 1) (hf : f_X1_firstWinning_j50 k20 x0 x1 x2 x3 x4 μ = some (r, μ')) : FrC μ μ' := by
  unfold f_X1_firstWinning_j50 at hf
  exact h20 _ _ _ _ _ _ _ _ t0 hf
theorem frc_w_X1_firstWinning_20 : ∀ (n : Nat) (x0 x1 x2 x3 x4 : Int) (μ μ' : Mem) (r : Int), isK x0 1 → f_X1_firstWinning_w20 n x0 x1 x2 x3 x4 μ = some (r, μ') → FrC μ μ' := by
  intro n
  induction n with
  | zero => intro x0 x1 x2 x3 x4 μ μ' r t0 hf; cases hf
  | succ n ih =>
    intro x0 x1 x2 x3 x4 μ μ' r t0 hf
    rw [f_X1_firstWinning_w20.eq_2] at hf
    rcases Decidable.em (nrm x4 < 0) with c1 | c1
    · have hf := ite_t c1 hf
      exact frc_w_X1_firstWinning_59 FU _ _ _ _ _ _ _ _ t0 hf
    · have hf := ite_f c1 hf
      rcases Decidable.em (nrm 512 ≤ nrm x4) with c2 | c2
      · have hf := ite_t c2 hf
        exact frc_w_X1_firstWinning_50 _ ih t0 hf
      · have hf := ite_f c2 hf
        obtain ⟨r4, μ3, e5, hf⟩ := bn_some hf
        have fq2 := (frc_X1_wonBehind t0 e5)
        obtain ⟨g8, hf⟩ := gd_some hf
        obtain ⟨μ6, e7, hf⟩ := nm_some hf
        have fq3 := fq2.trans (frc_ms (by have := bd_1 t0; omega) e7)
        exact fq3.trans (frc_w_X1_firstWinning_50 _ ih t0 hf)
theorem frc_X1_firstWinning {x0 x1 : Int} {μ μ' : Mem} {r : Int} (t0 : isK x0 1) (hf : f_X1_firstWinning x0 x1 μ = some (r, μ')) : FrC μ μ' := by
  unfold f_X1_firstWinning at hf
  obtain ⟨g1, hf⟩ := gd_some hf
  obtain ⟨r3, μ2, e4, hf⟩ := bn_some hf
  have fq4 := (frc_X0_openLanes g1 e4)
  obtain ⟨g5, hf⟩ := gd_some hf
  obtain ⟨v6, e7, hf⟩ := nm_some hf
  exact fq4.trans (frc_w_X1_firstWinning_20 FU _ _ _ _ _ _ _ _ t0 hf)
theorem frc_X2_kept {x0 : Int} {μ μ' : Mem} {r : Int} (t0 : isK x0 2) (hf : f_X2_kept x0 μ = some (r, μ')) : FrC μ μ' := by
  unfold f_X2_kept at hf
  cases hf; exact frc_rf
theorem frc_X2_forgetAll {x0 : Int} {μ μ' : Mem} {r : Int} (t0 : isK x0 2) (hf : f_X2_forgetAll x0 μ = some (r, μ')) : FrC μ μ' := by
  unfold f_X2_forgetAll at hf
  obtain ⟨μ1, e2, hf⟩ := nm_some hf
  have fq1 := (frc_ms (by have := bd_2 t0; omega) e2)
  cases hf; exact fq1
theorem frc_X2_keep {x0 x1 : Int} {μ μ' : Mem} {r : Int} (t0 : isK x0 2) (hf : f_X2_keep x0 x1 μ = some (r, μ')) : FrC μ μ' := by
  unfold f_X2_keep at hf
  rcases Decidable.em (nrm (μ x0 1) < 0) with c1 | c1
  · have hf := ite_t c1 hf
    cases hf; exact frc_rf
  · have hf := ite_f c1 hf
    rcases Decidable.em (nrm 10 ≤ nrm (μ x0 1)) with c2 | c2
    · have hf := ite_t c2 hf
      cases hf; exact frc_rf
    · have hf := ite_f c2 hf
      obtain ⟨g3, hf⟩ := gd_some hf
      rcases Decidable.em (((x0 + 1) + 1 + 2 * (nrm (μ x0 1))) < 0) with c4 | c4
      · have hf := ite_t c4 hf
        cases hf; exact frc_rf
      · have hf := ite_f c4 hf
        obtain ⟨g5, hf⟩ := gd_some hf
        obtain ⟨r7, μ6, e8, hf⟩ := bn_some hf
        have fq1 := (frc_X0_takeOver (el_60010 (ow_2_0 t0) g5) e8)
        obtain ⟨μ9, e10, hf⟩ := nm_some hf
        have fq2 := fq1.trans (frc_ms (by have := bd_2 t0; omega) e10)
        obtain ⟨r12, μ11, e13, hf⟩ := bn_some hf
        have fq3 := fq2.trans (frc_J9_min_7cf53 e13)
        obtain ⟨μ14, e15, hf⟩ := nm_some hf
        have fq4 := fq3.trans (frc_ms (by have := bd_2 t0; omega) e15)
        cases hf; exact fq4
theorem frc_J9_floorMod_7cf53 {x0 x1 : Int} {μ μ' : Mem} {r : Int} (hf : f_J9_floorMod_7cf53 x0 x1 μ = some (r, μ')) : FrC μ μ' := by
  unfold f_J9_floorMod_7cf53 at hf
  obtain ⟨g1, hf⟩ := gd_some hf
  obtain ⟨v2, e3, hf⟩ := nm_some hf
  rcases Decidable.em (0 ≤ nrm (jxor x0 x1)) with c4 | c4
  · have hf := ite_t c4 hf
    cases hf; exact frc_rf
  · have hf := ite_f c4 hf
    rcases Decidable.em (nrm v2 = 0) with c5 | c5
    · have hf := ite_t c5 hf
      cases hf; exact frc_rf
    · have hf := ite_f c5 hf
      cases hf; exact frc_rf
theorem frc_X2_bringBack {x0 x1 x2 : Int} {μ μ' : Mem} {r : Int} (t0 : isK x0 2) (hf : f_X2_bringBack x0 x1 x2 μ = some (r, μ')) : FrC μ μ' := by
  unfold f_X2_bringBack at hf
  rcases Decidable.em (nrm x1 < nrm 1) with c1 | c1
  · have hf := ite_t c1 hf
    cases hf; exact frc_rf
  · have hf := ite_f c1 hf
    rcases Decidable.em (nrm x1 ≤ nrm (μ x0 2)) with c2 | c2
    · have hf := ite_t c2 hf
      obtain ⟨r4, μ3, e5, hf⟩ := bn_some hf
      have fq1 := (frc_J9_floorMod_7cf53 e5)
      rcases Decidable.em (nrm r4 < 0) with c6 | c6
      · have hf := ite_t c6 hf
        cases hf; exact fq1
      · have hf := ite_f c6 hf
        rcases Decidable.em (nrm 10 ≤ nrm r4) with c7 | c7
        · have hf := ite_t c7 hf
          cases hf; exact fq1
        · have hf := ite_f c7 hf
          obtain ⟨g8, hf⟩ := gd_some hf
          rcases Decidable.em (((x0 + 1) + 1 + 2 * (nrm r4)) < 0) with c9 | c9
          · have hf := ite_t c9 hf
            cases hf; exact fq1
          · have hf := ite_f c9 hf
            obtain ⟨μ10, e11, hf⟩ := nm_some hf
            have fq2 := fq1.trans (frc_ms (by have := bd_2 t0; omega) e11)
            obtain ⟨μ12, e13, hf⟩ := nm_some hf
            have fq3 := fq2.trans (frc_ms (by have := bd_2 t0; omega) e13)
            obtain ⟨g14, hf⟩ := gd_some hf
            obtain ⟨g15, hf⟩ := gd_some hf
            obtain ⟨r17, μ16, e18, hf⟩ := bn_some hf
            have fq4 := fq3.trans (frc_X0_takeOver g15 e18)
            cases hf; exact fq4
    · have hf := ite_f c2 hf
      cases hf; exact frc_rf
theorem frc_w_J7_fill_53178_5 : ∀ (n : Nat) (x0 x1 x2 x3 : Int) (μ μ' : Mem) (r : Int), x0 < 111 → f_J7_fill_53178_w5 n x0 x1 x2 x3 μ = some (r, μ') → FrC μ μ' := by
  intro n
  induction n with
  | zero => intro x0 x1 x2 x3 μ μ' r hb hf; cases hf
  | succ n ih =>
    intro x0 x1 x2 x3 μ μ' r hb hf
    rw [f_J7_fill_53178_w5.eq_2] at hf
    rcases Decidable.em (nrm x3 ≤ nrm x2) with c1 | c1
    · have hf := ite_t c1 hf
      cases hf; exact frc_rf
    · have hf := ite_f c1 hf
      obtain ⟨g4, hf⟩ := gd_some hf
      obtain ⟨μ2, e3, hf⟩ := nm_some hf
      have fq1 := (frc_ms (by omega) e3)
      exact fq1.trans (ih _ _ _ _ _ _ _ hb hf)
theorem frc_J7_fill_53178 {x0 x1 : Int} {μ μ' : Mem} {r : Int} (hb : x0 < 111) (hf : f_J7_fill_53178 x0 x1 μ = some (r, μ')) : FrC μ μ' := by
  unfold f_J7_fill_53178 at hf
  obtain ⟨g1, hf⟩ := gd_some hf
  obtain ⟨v2, e3, hf⟩ := nm_some hf
  exact frc_w_J7_fill_53178_5 FU _ _ _ _ _ _ _ hb hf
theorem frc_X4_makeEmpty {x0 : Int} {μ μ' : Mem} {r : Int} (t0 : isK x0 4) (hf : f_X4_makeEmpty x0 μ = some (r, μ')) : FrC μ μ' := by
  unfold f_X4_makeEmpty at hf
  obtain ⟨μ1, e2, hf⟩ := nm_some hf
  have fq1 := (frc_ms (by have := bd_4 t0; omega) e2)
  obtain ⟨r4, μ3, e5, hf⟩ := bn_some hf
  have fq2 := fq1.trans (frc_J7_fill_53178 (by have := bd_4 t0; omega) e5)
  obtain ⟨r7, μ6, e8, hf⟩ := bn_some hf
  have fq3 := fq2.trans (frc_J7_fill_53178 (by have := bd_4 t0; omega) e8)
  cases hf; exact fq3
theorem frc_X3_makeEmpty {x0 : Int} {μ μ' : Mem} {r : Int} (t0 : isK x0 3) (hf : f_X3_makeEmpty x0 μ = some (r, μ')) : FrC μ μ' := by
  unfold f_X3_makeEmpty at hf
  obtain ⟨μ1, e2, hf⟩ := nm_some hf
  have fq1 := (frc_ms (by have := bd_3 t0; omega) e2)
  obtain ⟨μ3, e4, hf⟩ := nm_some hf
  have fq2 := fq1.trans (frc_ms (by have := bd_3 t0; omega) e4)
  obtain ⟨μ5, e6, hf⟩ := nm_some hf
  have fq3 := fq2.trans (frc_ms (by have := bd_3 t0; omega) e6)
  obtain ⟨μ7, e8, hf⟩ := nm_some hf
  have fq4 := fq3.trans (frc_ms (by have := bd_3 t0; omega) e8)
  obtain ⟨μ9, e10, hf⟩ := nm_some hf
  have fq5 := fq4.trans (frc_ms (by have := bd_3 t0; omega) e10)
  obtain ⟨μ11, e12, hf⟩ := nm_some hf
  have fq6 := fq5.trans (frc_ms (by have := bd_3 t0; omega) e12)
  obtain ⟨μ13, e14, hf⟩ := nm_some hf
  have fq7 := fq6.trans (frc_ms (by have := bd_3 t0; omega) e14)
  obtain ⟨μ15, e16, hf⟩ := nm_some hf
  have fq8 := fq7.trans (frc_ms (by have := bd_3 t0; omega) e16)
  obtain ⟨r18, μ17, e19, hf⟩ := bn_some hf
  have fq9 := fq8.trans (frc_J7_fill_53178 (by have := bd_3 t0; omega) e19)
  obtain ⟨r21, μ20, e22, hf⟩ := bn_some hf
  have fq10 := fq9.trans (frc_J7_fill_53178 (by have := bd_3 t0; omega) e22)
  obtain ⟨r24, μ23, e25, hf⟩ := bn_some hf
  have fq11 := fq10.trans (frc_J7_fill_53178 (by have := bd_3 t0; omega) e25)
  obtain ⟨r27, μ26, e28, hf⟩ := bn_some hf
  have fq12 := fq11.trans (frc_X4_makeEmpty (ow_3_14 t0) e28)
  cases hf; exact fq12
theorem frc_X3_hasPlace {x0 x1 : Int} {μ μ' : Mem} {r : Int} (t0 : isK x0 3) (hf : f_X3_hasPlace x0 x1 μ = some (r, μ')) : FrC μ μ' := by
  unfold f_X3_hasPlace at hf
  rcases Decidable.em (nrm x1 < 0) with c1 | c1
  · have hf := ite_t c1 hf
    cases hf; exact frc_rf
  · have hf := ite_f c1 hf
    rcases Decidable.em (nrm (μ x0 0) ≤ nrm x1) with c2 | c2
    · have hf := ite_t c2 hf
      cases hf; exact frc_rf
    · have hf := ite_f c2 hf
      rcases Decidable.em (nrm 7 ≤ nrm x1) with c3 | c3
      · have hf := ite_t c3 hf
        cases hf; exact frc_rf
      · have hf := ite_f c3 hf
        cases hf; exact frc_rf
theorem frc_w_X3_comingFrom_84 (k7 : Int → Int → Int → Int → Mem → Option (Int × Mem)) (h7 : ∀ (x0 x2 x3 x4 : Int) (μ μ' : Mem) (r : Int), isK x0 3 → k7 x0 x2 x3 x4 μ = some (r, μ') → FrC μ μ') {x0 x2 x3 x4 x5 : Int} {μ μ' : Mem} {r : Int} (t0 : isK x0 3) (hf : f_X3_comingFrom_j84 k7 x0 x2 x3 x4 x5 μ = some (r, μ')) : FrC μ μ' := by
  unfold f_X3_comingFrom_j84 at hf
  rcases Decidable.em (nrm x3 = nrm x5) with c1 | c1
  · have hf := ite_t c1 hf
    cases hf; exact frc_rf
  · have hf := ite_f c1 hf
    exact h7 _ _ _ _ _ _ _ t0 hf
theorem frc_w_X3_comingFrom_78 (k7 : Int → Int → Int → Int → Mem → Option (Int × Mem)) (h7 : ∀ (x0 x2 x3 x4 : Int) (μ μ' : Mem) (r : Int), isK x0 3 → k7 x0 x2 x3 x4 μ = some (r, μ') → FrC μ μ') (k20 : Int → Int → Int → Int → Int → Int → Mem → Option (Int × Mem)) (h20 : ∀ (x0 x2 x3 x4 x5 x6 : Int) (μ μ' : Mem) (r : Int), isK x0 3 → k20 x0 x2 x3 x4 x5 x6 μ = some (r, μ') → FrC μ μ') {x0 x2 x3 x4 x5 x6 : Int} {μ μ' : Mem} {r : Int} (t0 : isK x0 3) (hf : f_X3_comingFrom_j78 k7 k20 x0 x2 x3 x4 x5 x6 μ = some (r, μ')) : FrC μ μ' := by
  unfold f_X3_comingFrom_j78 at hf
  exact h20 _ _ _ _ _ _ _ _ _ t0 hf
theorem frc_w_X3_comingFrom_20 (k7 : Int → Int → Int → Int → Mem → Option (Int × Mem)) (h7 : ∀ (x0 x2 x3 x4 : Int) (μ μ' : Mem) (r : Int), isK x0 3 → k7 x0 x2 x3 x4 μ = some (r, μ') → FrC μ μ') : ∀ (n : Nat) (x0 x2 x3 x4 x5 x6 : Int) (μ μ' : Mem) (r : Int), isK x0 3 → f_X3_comingFrom_w20 k7 n x0 x2 x3 x4 x5 x6 μ = some (r, μ') → FrC μ μ' := by
  intro n
  induction n with
  | zero => intro x0 x2 x3 x4 x5 x6 μ μ' r t0 hf; cases hf
  | succ n ih =>
    intro x0 x2 x3 x4 x5 x6 μ μ' r t0 hf
    rw [f_X3_comingFrom_w20.eq_2] at hf
    rcases Decidable.em (nrm (μ x0 1) ≤ nrm x6) with c1 | c1
    · have hf := ite_t c1 hf
      exact frc_w_X3_comingFrom_84 _ h7 t0 hf
    · have hf := ite_f c1 hf
      rcases Decidable.em (nrm 9 ≤ nrm x6) with c2 | c2
      · have hf := ite_t c2 hf
        exact frc_w_X3_comingFrom_84 _ h7 t0 hf
      · have hf := ite_f c2 hf
        obtain ⟨g3, hf⟩ := gd_some hf
        obtain ⟨g4, hf⟩ := gd_some hf
        obtain ⟨v5, e6, hf⟩ := nm_some hf
        rcases Decidable.em (nrm (jand (jshr x2 x6) 1) = 0) with c7 | c7
        · have hf := ite_t c7 hf
          exact frc_w_X3_comingFrom_78 _ h7 _ ih t0 hf
        · have hf := ite_f c7 hf
          rcases Decidable.em (nrm (jand x3 v5) = 0) with c8 | c8
          · have hf := ite_t c8 hf
            exact frc_w_X3_comingFrom_78 _ h7 _ ih t0 hf
          · have hf := ite_f c8 hf
            obtain ⟨v9, e10, hf⟩ := nm_some hf
            exact frc_w_X3_comingFrom_78 _ h7 _ ih t0 hf
theorem frc_w_X3_comingFrom_7 : ∀ (n : Nat) (x0 x2 x3 x4 : Int) (μ μ' : Mem) (r : Int), isK x0 3 → f_X3_comingFrom_w7 n x0 x2 x3 x4 μ = some (r, μ') → FrC μ μ' := by
  intro n
  induction n with
  | zero => intro x0 x2 x3 x4 μ μ' r t0 hf; cases hf
  | succ n ih =>
    intro x0 x2 x3 x4 μ μ' r t0 hf
    rw [f_X3_comingFrom_w7.eq_2] at hf
    rcases Decidable.em (nrm 7 ≤ nrm x4) with c1 | c1
    · have hf := ite_t c1 hf
      cases hf; exact frc_rf
    · have hf := ite_f c1 hf
      exact frc_w_X3_comingFrom_20 _ ih FU _ _ _ _ _ _ _ _ _ t0 hf
theorem frc_X3_comingFrom {x0 x1 x2 : Int} {μ μ' : Mem} {r : Int} (t0 : isK x0 3) (hf : f_X3_comingFrom x0 x1 x2 μ = some (r, μ')) : FrC μ μ' := by
  unfold f_X3_comingFrom at hf
  obtain ⟨v1, e2, hf⟩ := nm_some hf
  exact frc_w_X3_comingFrom_7 FU _ _ _ _ _ _ _ t0 hf
theorem frc_w_X3_backInTheEnd_4 : ∀ (n : Nat) (x0 x2 x3 : Int) (μ μ' : Mem) (r : Int), isK x0 3 → f_X3_backInTheEnd_w4 n x0 x2 x3 μ = some (r, μ') → FrC μ μ' := by
  intro n
  induction n with
  | zero => intro x0 x2 x3 μ μ' r t0 hf; cases hf
  | succ n ih =>
    intro x0 x2 x3 μ μ' r t0 hf
    rw [f_X3_backInTheEnd_w4.eq_2] at hf
    rcases Decidable.em (nrm 8 ≤ nrm x3) with c1 | c1
    · have hf := ite_t c1 hf
      cases hf; exact frc_rf
    · have hf := ite_f c1 hf
      obtain ⟨r3, μ2, e4, hf⟩ := bn_some hf
      have fq1 := (frc_X3_backBehindSeason t0 e4)
      exact fq1.trans (ih _ _ _ _ _ _ t0 hf)
theorem frc_X3_backInTheEnd {x0 x1 : Int} {μ μ' : Mem} {r : Int} (t0 : isK x0 3) (hf : f_X3_backInTheEnd x0 x1 μ = some (r, μ')) : FrC μ μ' := by
  unfold f_X3_backInTheEnd at hf
  exact frc_w_X3_backInTheEnd_4 FU _ _ _ _ _ _ t0 hf
theorem frc_X4_stepsNow {x0 : Int} {μ μ' : Mem} {r : Int} (t0 : isK x0 4) (hf : f_X4_stepsNow x0 μ = some (r, μ')) : FrC μ μ' := by
  unfold f_X4_stepsNow at hf
  cases hf; exact frc_rf
theorem frc_X4_addStep {x0 x1 x2 : Int} {μ μ' : Mem} {r : Int} (t0 : isK x0 4) (hf : f_X4_addStep x0 x1 x2 μ = some (r, μ')) : FrC μ μ' := by
  unfold f_X4_addStep at hf
  rcases Decidable.em (nrm (μ x0 1) < 0) with c1 | c1
  · have hf := ite_t c1 hf
    cases hf; exact frc_rf
  · have hf := ite_f c1 hf
    rcases Decidable.em (nrm 900 ≤ nrm (μ x0 1)) with c2 | c2
    · have hf := ite_t c2 hf
      cases hf; exact frc_rf
    · have hf := ite_f c2 hf
      obtain ⟨g5, hf⟩ := gd_some hf
      obtain ⟨μ3, e4, hf⟩ := nm_some hf
      have fq1 := (frc_ms (by have := bd_4 t0; omega) e4)
      obtain ⟨μ6, e7, hf⟩ := nm_some hf
      have fq2 := fq1.trans (frc_ms (by have := bd_4 t0; omega) e7)
      cases hf; exact fq2
theorem frc_X4_enact {x0 x1 x2 : Int} {μ μ' : Mem} {r : Int} (t0 : isK x0 4) (hf : f_X4_enact x0 x1 x2 μ = some (r, μ')) : FrC μ μ' := by
  unfold f_X4_enact at hf
  rcases Decidable.em (nrm x1 < 0) with c1 | c1
  · have hf := ite_t c1 hf
    cases hf; exact frc_rf
  · have hf := ite_f c1 hf
    rcases Decidable.em (nrm 2 ≤ nrm x1) with c2 | c2
    · have hf := ite_t c2 hf
      cases hf; exact frc_rf
    · have hf := ite_f c2 hf
      obtain ⟨g5, hf⟩ := gd_some hf
      obtain ⟨μ3, e4, hf⟩ := nm_some hf
      have fq1 := (frc_ms (by have := bd_4 t0; omega) e4)
      obtain ⟨g8, hf⟩ := gd_some hf
      obtain ⟨μ6, e7, hf⟩ := nm_some hf
      have fq2 := fq1.trans (frc_ms (by have := bd_4 t0; omega) e7)
      cases hf; exact fq2
theorem frc_X5_aboveAt {x0 x1 : Int} {μ μ' : Mem} {r : Int} (t0 : isK x0 5) (hf : f_X5_aboveAt x0 x1 μ = some (r, μ')) : FrC μ μ' := by
  unfold f_X5_aboveAt at hf
  rcases Decidable.em (nrm x1 < 0) with c1 | c1
  · have hf := ite_t c1 hf
    cases hf; exact frc_rf
  · have hf := ite_f c1 hf
    rcases Decidable.em (nrm x1 < nrm 7) with c2 | c2
    · have hf := ite_t c2 hf
      obtain ⟨g3, hf⟩ := gd_some hf
      obtain ⟨g4, hf⟩ := gd_some hf
      cases hf; exact frc_rf
    · have hf := ite_f c2 hf
      cases hf; exact frc_rf
theorem frc_X5_belowAll {x0 : Int} {μ μ' : Mem} {r : Int} (t0 : isK x0 5) (hf : f_X5_belowAll x0 μ = some (r, μ')) : FrC μ μ' := by
  unfold f_X5_belowAll at hf
  cases hf; exact frc_rf
theorem frc_X5_throughTo {x0 x1 x2 x3 : Int} {μ μ' : Mem} {r : Int} (t0 : isK x0 5) (hf : f_X5_throughTo x0 x1 x2 x3 μ = some (r, μ')) : FrC μ μ' := by
  unfold f_X5_throughTo at hf
  obtain ⟨g1, hf⟩ := gd_some hf
  obtain ⟨r3, μ2, e4, hf⟩ := bn_some hf
  have fq1 := (frc_X3_hasLane g1 e4)
  rcases Decidable.em (nrm r3 = 0) with c5 | c5
  · have hf := ite_t c5 hf
    cases hf; exact fq1
  · have hf := ite_f c5 hf
    rcases Decidable.em (nrm x3 < 0) with c6 | c6
    · have hf := ite_t c6 hf
      cases hf; exact fq1
    · have hf := ite_f c6 hf
      rcases Decidable.em (nrm x3 < nrm 7) with c7 | c7
      · have hf := ite_t c7 hf
        obtain ⟨g8, hf⟩ := gd_some hf
        obtain ⟨g9, hf⟩ := gd_some hf
        obtain ⟨g10, hf⟩ := gd_some hf
        cases hf; exact fq1
      · have hf := ite_f c7 hf
        cases hf; exact fq1
theorem frc_w_X5_commonOf_7 : ∀ (n : Nat) (x2 x3 x4 : Int) (μ μ' : Mem) (r : Int), f_X5_commonOf_w7 n x2 x3 x4 μ = some (r, μ') → FrC μ μ' := by
  intro n
  induction n with
  | zero => intro x2 x3 x4 μ μ' r hf; cases hf
  | succ n ih =>
    intro x2 x3 x4 μ μ' r hf
    rw [f_X5_commonOf_w7.eq_2] at hf
    rcases Decidable.em (nrm 64 ≤ nrm x4) with c1 | c1
    · have hf := ite_t c1 hf
      cases hf; exact frc_rf
    · have hf := ite_f c1 hf
      rcases Decidable.em (nrm x3 = 0) with c2 | c2
      · have hf := ite_t c2 hf
        cases hf; exact frc_rf
      · have hf := ite_f c2 hf
        obtain ⟨g3, hf⟩ := gd_some hf
        obtain ⟨v4, e5, hf⟩ := nm_some hf
        exact ih _ _ _ _ _ _ hf
theorem frc_X5_commonOf {x0 x1 : Int} {μ μ' : Mem} {r : Int} (hf : f_X5_commonOf x0 x1 μ = some (r, μ')) : FrC μ μ' := by
  unfold f_X5_commonOf at hf
  exact frc_w_X5_commonOf_7 FU _ _ _ _ _ _ hf
theorem frc_X6_fillingsIn {x0 : Int} {μ μ' : Mem} {r : Int} (hf : f_X6_fillingsIn x0 μ = some (r, μ')) : FrC μ μ' := by
  unfold f_X6_fillingsIn at hf
  cases hf; exact frc_rf
theorem frc_X6_lanesIn {x0 : Int} {μ μ' : Mem} {r : Int} (hf : f_X6_lanesIn x0 μ = some (r, μ')) : FrC μ μ' := by
  unfold f_X6_lanesIn at hf
  cases hf; exact frc_rf
theorem frc_X6_weightOf {x0 x1 : Int} {μ μ' : Mem} {r : Int} (t0 : isK x0 6) (hf : f_X6_weightOf x0 x1 μ = some (r, μ')) : FrC μ μ' := by
  unfold f_X6_weightOf at hf
  rcases Decidable.em (nrm x1 < 0) with c1 | c1
  · have hf := ite_t c1 hf
    cases hf; exact frc_rf
  · have hf := ite_f c1 hf
    rcases Decidable.em (nrm x1 < nrm 9) with c2 | c2
    · have hf := ite_t c2 hf
      obtain ⟨g3, hf⟩ := gd_some hf
      cases hf; exact frc_rf
    · have hf := ite_f c2 hf
      cases hf; exact frc_rf
theorem frc_X6_farFrom {x0 x1 : Int} {μ μ' : Mem} {r : Int} (t0 : isK x0 6) (hf : f_X6_farFrom x0 x1 μ = some (r, μ')) : FrC μ μ' := by
  unfold f_X6_farFrom at hf
  rcases Decidable.em (nrm x1 < 0) with c1 | c1
  · have hf := ite_t c1 hf
    cases hf; exact frc_rf
  · have hf := ite_f c1 hf
    rcases Decidable.em (nrm x1 < nrm 7) with c2 | c2
    · have hf := ite_t c2 hf
      obtain ⟨g3, hf⟩ := gd_some hf
      cases hf; exact frc_rf
    · have hf := ite_f c2 hf
      cases hf; exact frc_rf
theorem frc_w_X6_relax_45 {x0 x1 x3 x4 : Int} {μ μ' : Mem} {r : Int} (t0 : isK x0 6) (hf : f_X6_relax_j45 x0 x1 x3 x4 μ = some (r, μ')) : FrC μ μ' := by
  unfold f_X6_relax_j45 at hf
  obtain ⟨g3, hf⟩ := gd_some hf
  obtain ⟨μ1, e2, hf⟩ := nm_some hf
  have fq1 := (frc_ms (by have := bd_6 t0; omega) e2)
  cases hf; exact fq1
theorem frc_X6_relax {x0 x1 x2 x3 : Int} {μ μ' : Mem} {r : Int} (t0 : isK x0 6) (hf : f_X6_relax x0 x1 x2 x3 μ = some (r, μ')) : FrC μ μ' := by
  unfold f_X6_relax at hf
  obtain ⟨r2, μ1, e3, hf⟩ := bn_some hf
  have fq2 := (frc_X6_farFrom t0 e3)
  obtain ⟨r5, μ4, e6, hf⟩ := bn_some hf
  have fq3 := fq2.trans (frc_X6_farFrom t0 e6)
  rcases Decidable.em (nrm r2 = nrm (-1)) with c7 | c7
  · have hf := ite_t c7 hf
    cases hf; exact fq3
  · have hf := ite_f c7 hf
    rcases Decidable.em (nrm x1 < 0) with c8 | c8
    · have hf := ite_t c8 hf
      cases hf; exact fq3
    · have hf := ite_f c8 hf
      rcases Decidable.em (nrm 7 ≤ nrm x1) with c9 | c9
      · have hf := ite_t c9 hf
        cases hf; exact fq3
      · have hf := ite_f c9 hf
        rcases Decidable.em (nrm r5 = nrm (-1)) with c10 | c10
        · have hf := ite_t c10 hf
          exact fq3.trans (frc_w_X6_relax_45 t0 hf)
        · have hf := ite_f c10 hf
          rcases Decidable.em (nrm r5 ≤ nrm (r2 + x3)) with c11 | c11
          · have hf := ite_t c11 hf
            cases hf; exact fq3
          · have hf := ite_f c11 hf
            exact fq3.trans (frc_w_X6_relax_45 t0 hf)
theorem frc_w_X6_measure_119 (k28 : Int → Int → Int → Mem → Option (Int × Mem)) (h28 : ∀ (x0 x1 x3 : Int) (μ μ' : Mem) (r : Int), isK x0 6 → k28 x0 x1 x3 μ = some (r, μ') → FrC μ μ') {x0 x1 x3 : Int} {μ μ' : Mem} {r : Int} (t0 : isK x0 6) (hf : f_X6_measure_j119 k28 x0 x1 x3 μ = some (r, μ')) : FrC μ μ' := by
  unfold f_X6_measure_j119 at hf
  exact h28 _ _ _ _ _ _ t0 hf
theorem frc_w_X6_measure_113 (k28 : Int → Int → Int → Mem → Option (Int × Mem)) (h28 : ∀ (x0 x1 x3 : Int) (μ μ' : Mem) (r : Int), isK x0 6 → k28 x0 x1 x3 μ = some (r, μ') → FrC μ μ') (k37 : Int → Int → Int → Int → Mem → Option (Int × Mem)) (h37 : ∀ (x0 x1 x3 x4 : Int) (μ μ' : Mem) (r : Int), isK x0 6 → k37 x0 x1 x3 x4 μ = some (r, μ') → FrC μ μ') {x0 x1 x3 x4 : Int} {μ μ' : Mem} {r : Int} (t0 : isK x0 6) (hf : f_X6_measure_j113 k28 k37 x0 x1 x3 x4 μ = some (r, μ')) : FrC μ μ' := by
  unfold f_X6_measure_j113 at hf
  exact h37 _ _ _ _ _ _ _ t0 hf
theorem frc_w_X6_measure_37 (k28 : Int → Int → Int → Mem → Option (Int × Mem)) (h28 : ∀ (x0 x1 x3 : Int) (μ μ' : Mem) (r : Int), isK x0 6 → k28 x0 x1 x3 μ = some (r, μ') → FrC μ μ') : ∀ (n : Nat) (x0 x1 x3 x4 : Int) (μ μ' : Mem) (r : Int), isK x0 6 → f_X6_measure_w37 k28 n x0 x1 x3 x4 μ = some (r, μ') → FrC μ μ' := by
  intro n
  induction n with
  | zero => intro x0 x1 x3 x4 μ μ' r t0 hf; cases hf
  | succ n ih =>
    intro x0 x1 x3 x4 μ μ' r t0 hf
    rw [f_X6_measure_w37.eq_2] at hf
    obtain ⟨g1, hf⟩ := gd_some hf
    rcases Decidable.em (nrm (μ x1 1) ≤ nrm x4) with c2 | c2
    · have hf := ite_t c2 hf
      exact frc_w_X6_measure_119 _ h28 t0 hf
    · have hf := ite_f c2 hf
      rcases Decidable.em (nrm 9 ≤ nrm x4) with c3 | c3
      · have hf := ite_t c3 hf
        exact frc_w_X6_measure_119 _ h28 t0 hf
      · have hf := ite_f c3 hf
        obtain ⟨r5, μ4, e6, hf⟩ := bn_some hf
        have fq1 := (frc_X6_weightOf t0 e6)
        rcases Decidable.em (nrm r5 = nrm (-1)) with c7 | c7
        · have hf := ite_t c7 hf
          exact fq1.trans (frc_w_X6_measure_113 _ h28 _ ih t0 hf)
        · have hf := ite_f c7 hf
          obtain ⟨g8, hf⟩ := gd_some hf
          obtain ⟨g9, hf⟩ := gd_some hf
          obtain ⟨g10, hf⟩ := gd_some hf
          obtain ⟨r12, μ11, e13, hf⟩ := bn_some hf
          have fq2 := fq1.trans (frc_X6_relax t0 e13)
          obtain ⟨g14, hf⟩ := gd_some hf
          obtain ⟨g15, hf⟩ := gd_some hf
          obtain ⟨g16, hf⟩ := gd_some hf
          obtain ⟨r18, μ17, e19, hf⟩ := bn_some hf
          have fq3 := fq2.trans (frc_X6_relax t0 e19)
          exact fq3.trans (frc_w_X6_measure_113 _ h28 _ ih t0 hf)
theorem frc_w_X6_measure_28 : ∀ (n : Nat) (x0 x1 x3 : Int) (μ μ' : Mem) (r : Int), isK x0 6 → f_X6_measure_w28 n x0 x1 x3 μ = some (r, μ') → FrC μ μ' := by
  intro n
  induction n with
  | zero => intro x0 x1 x3 μ μ' r t0 hf; cases hf
  | succ n ih =>
    intro x0 x1 x3 μ μ' r t0 hf
    rw [f_X6_measure_w28.eq_2] at hf
    rcases Decidable.em (nrm 7 ≤ nrm x3) with c1 | c1
    · have hf := ite_t c1 hf
      cases hf; exact frc_rf
    · have hf := ite_f c1 hf
      exact frc_w_X6_measure_37 _ ih FU _ _ _ _ _ _ _ t0 hf
theorem frc_X6_measure {x0 x1 x2 : Int} {μ μ' : Mem} {r : Int} (t0 : isK x0 6) (hf : f_X6_measure x0 x1 x2 μ = some (r, μ')) : FrC μ μ' := by
  unfold f_X6_measure at hf
  obtain ⟨r2, μ1, e3, hf⟩ := bn_some hf
  have fq4 := (frc_J7_fill_53178 (by have := bd_6 t0; omega) e3)
  rcases Decidable.em (nrm x2 < 0) with c4 | c4
  · have hf := ite_t c4 hf
    cases hf; exact fq4
  · have hf := ite_f c4 hf
    rcases Decidable.em (nrm x2 < nrm 7) with c5 | c5
    · have hf := ite_t c5 hf
      obtain ⟨g8, hf⟩ := gd_some hf
      obtain ⟨μ6, e7, hf⟩ := nm_some hf
      have fq5 := fq4.trans (frc_ms (by have := bd_6 t0; omega) e7)
      exact fq5.trans (frc_w_X6_measure_28 FU _ _ _ _ _ _ t0 hf)
    · have hf := ite_f c5 hf
      cases hf; exact fq4
theorem frc_w_X6_measureOpen_26 (k2 : Int → Int → Int → Int → Mem → Option (Int × Mem)) (h2 : ∀ (x0 x1 x2 x3 : Int) (μ μ' : Mem) (r : Int), isK x0 6 → k2 x0 x1 x2 x3 μ = some (r, μ') → FrC μ μ') {x0 x1 x2 x3 s0 s1 s2 : Int} {μ μ' : Mem} {r : Int} (hb_s0 : s0 < 111) (t0 : isK x0 6) (hf : f_X6_measureOpen_j26 k2 x0 x1 x2 x3 s0 s1 s2 μ = some (r, μ')) : FrC μ μ' := by
  unfold f_X6_measureOpen_j26 at hf
  obtain ⟨g3, hf⟩ := gd_some hf
  obtain ⟨μ1, e2, hf⟩ := nm_some hf
  have fq1 := (frc_ms (by omega) e2)
  exact fq1.trans (h2 _ _ _ _ _ _ _ t0 hf)
theorem frc_w_X6_measureOpen_2 : ∀ (n : Nat) (x0 x1 x2 x3 : Int) (μ μ' : Mem) (r : Int), isK x0 6 → f_X6_measureOpen_w2 n x0 x1 x2 x3 μ = some (r, μ') → FrC μ μ' := by
  intro n
  induction n with
  | zero => intro x0 x1 x2 x3 μ μ' r t0 hf; cases hf
  | succ n ih =>
    intro x0 x1 x2 x3 μ μ' r t0 hf
    rw [f_X6_measureOpen_w2.eq_2] at hf
    rcases Decidable.em (nrm 9 ≤ nrm x3) with c1 | c1
    · have hf := ite_t c1 hf
      obtain ⟨g2, hf⟩ := gd_some hf
      obtain ⟨r4, μ3, e5, hf⟩ := bn_some hf
      have fq2 := (frc_X6_measure t0 e5)
      cases hf; exact fq2
    · have hf := ite_f c1 hf
      obtain ⟨g6, hf⟩ := gd_some hf
      obtain ⟨r8, μ7, e9, hf⟩ := bn_some hf
      have fq3 := (frc_X0_isOpen g6 e9)
      rcases Decidable.em (nrm r8 = 0) with c10 | c10
      · have hf := ite_t c10 hf
        exact fq3.trans (frc_w_X6_measureOpen_26 _ ih (by have := bd_6 t0; omega) t0 hf)
      · have hf := ite_f c10 hf
        exact fq3.trans (frc_w_X6_measureOpen_26 _ ih (by have := bd_6 t0; omega) t0 hf)
theorem frc_X6_measureOpen {x0 x1 x2 : Int} {μ μ' : Mem} {r : Int} (t0 : isK x0 6) (hf : f_X6_measureOpen x0 x1 x2 μ = some (r, μ')) : FrC μ μ' := by
  unfold f_X6_measureOpen at hf
  exact frc_w_X6_measureOpen_2 FU _ _ _ _ _ _ _ t0 hf
theorem frc_w_X6_weighFillings_49 (k2 : Int → Int → Int → Mem → Option (Int × Mem)) (h2 : ∀ (x0 x1 x2 : Int) (μ μ' : Mem) (r : Int), isK x0 6 → k2 x0 x1 x2 μ = some (r, μ') → FrC μ μ') {x0 x1 x2 s0 s1 s2 : Int} {μ μ' : Mem} {r : Int} (hb_s0 : s0 < 111) (t0 : isK x0 6) (hf : f_X6_weighFillings_j49 k2 x0 x1 x2 s0 s1 s2 μ = some (r, μ')) : FrC μ μ' := by
  unfold f_X6_weighFillings_j49 at hf
  obtain ⟨g3, hf⟩ := gd_some hf
  obtain ⟨μ1, e2, hf⟩ := nm_some hf
  have fq1 := (frc_ms (by omega) e2)
  exact fq1.trans (h2 _ _ _ _ _ _ t0 hf)
theorem frc_w_X6_weighFillings_28 (k2 : Int → Int → Int → Mem → Option (Int × Mem)) (h2 : ∀ (x0 x1 x2 : Int) (μ μ' : Mem) (r : Int), isK x0 6 → k2 x0 x1 x2 μ = some (r, μ') → FrC μ μ') {x0 x1 x2 s0 : Int} {μ μ' : Mem} {r : Int} (t0 : isK x0 6) (hf : f_X6_weighFillings_j28 k2 x0 x1 x2 s0 μ = some (r, μ')) : FrC μ μ' := by
  unfold f_X6_weighFillings_j28 at hf
  rcases Decidable.em (nrm s0 = nrm (-1)) with c1 | c1
  · have hf := ite_t c1 hf
    exact frc_w_X6_weighFillings_49 _ h2 (by have := bd_6 t0; omega) t0 hf
  · have hf := ite_f c1 hf
    exact frc_w_X6_weighFillings_49 _ h2 (by have := bd_6 t0; omega) t0 hf
theorem frc_w_X6_weighFillings_2 : ∀ (n : Nat) (x0 x1 x2 : Int) (μ μ' : Mem) (r : Int), isK x0 6 → f_X6_weighFillings_w2 n x0 x1 x2 μ = some (r, μ') → FrC μ μ' := by
  intro n
  induction n with
  | zero => intro x0 x1 x2 μ μ' r t0 hf; cases hf
  | succ n ih =>
    intro x0 x1 x2 μ μ' r t0 hf
    rw [f_X6_weighFillings_w2.eq_2] at hf
    rcases Decidable.em (nrm 9 ≤ nrm x2) with c1 | c1
    · have hf := ite_t c1 hf
      cases hf; exact frc_rf
    · have hf := ite_f c1 hf
      obtain ⟨g2, hf⟩ := gd_some hf
      obtain ⟨g3, hf⟩ := gd_some hf
      obtain ⟨r5, μ4, e6, hf⟩ := bn_some hf
      have fq2 := (frc_X3_hasLane g3 e6)
      rcases Decidable.em (nrm r5 = 0) with c7 | c7
      · have hf := ite_t c7 hf
        exact fq2.trans (frc_w_X6_weighFillings_28 _ ih t0 hf)
      · have hf := ite_f c7 hf
        obtain ⟨r9, μ8, e10, hf⟩ := bn_some hf
        have fq3 := fq2.trans (frc_X0_fillingsOf g2 e10)
        exact fq3.trans (frc_w_X6_weighFillings_28 _ ih t0 hf)
theorem frc_X6_weighFillings {x0 x1 : Int} {μ μ' : Mem} {r : Int} (t0 : isK x0 6) (hf : f_X6_weighFillings x0 x1 μ = some (r, μ')) : FrC μ μ' := by
  unfold f_X6_weighFillings at hf
  exact frc_w_X6_weighFillings_2 FU _ _ _ _ _ _ t0 hf
theorem frc_X6_measureFillings {x0 x1 x2 : Int} {μ μ' : Mem} {r : Int} (t0 : isK x0 6) (hf : f_X6_measureFillings x0 x1 x2 μ = some (r, μ')) : FrC μ μ' := by
  unfold f_X6_measureFillings at hf
  obtain ⟨r2, μ1, e3, hf⟩ := bn_some hf
  have fq1 := (frc_X6_weighFillings t0 e3)
  obtain ⟨g4, hf⟩ := gd_some hf
  obtain ⟨r6, μ5, e7, hf⟩ := bn_some hf
  have fq2 := fq1.trans (frc_X6_measure t0 e7)
  cases hf; exact fq2
theorem frc_w_X6_firstOnward_67 (k9 : Int → Int → Int → Int → Int → Mem → Option (Int × Mem)) (h9 : ∀ (x0 x1 x2 x3 x4 : Int) (μ μ' : Mem) (r : Int), isK x0 6 → k9 x0 x1 x2 x3 x4 μ = some (r, μ') → FrC μ μ') {x0 x1 x2 x3 x4 : Int} {μ μ' : Mem} {r : Int} (t0 : isK x0 6) (hf : f_X6_firstOnward_j67 k9 x0 x1 x2 x3 x4 μ = some (r, μ')) : FrC μ μ' := by
  unfold f_X6_firstOnward_j67 at hf
  exact h9 _ _ _ _ _ _ _ _ t0 hf
theorem frc_w_X6_firstOnward_9 : ∀ (n : Nat) (x0 x1 x2 x3 x4 : Int) (μ μ' : Mem) (r : Int), isK x0 6 → f_X6_firstOnward_w9 n x0 x1 x2 x3 x4 μ = some (r, μ') → FrC μ μ' := by
  intro n
  induction n with
  | zero => intro x0 x1 x2 x3 x4 μ μ' r t0 hf; cases hf
  | succ n ih =>
    intro x0 x1 x2 x3 x4 μ μ' r t0 hf
    rw [f_X6_firstOnward_w9.eq_2] at hf
    rcases Decidable.em (nrm x3 ≤ 0) with c1 | c1
    · have hf := ite_t c1 hf
      cases hf; exact frc_rf
    · have hf := ite_f c1 hf
      obtain ⟨g2, hf⟩ := gd_some hf
      rcases Decidable.em (nrm (μ x1 1) ≤ nrm x4) with c3 | c3
      · have hf := ite_t c3 hf
        cases hf; exact frc_rf
      · have hf := ite_f c3 hf
        obtain ⟨r5, μ4, e6, hf⟩ := bn_some hf
        have fq1 := (frc_X3_otherEnd g2 e6)
        obtain ⟨r8, μ7, e9, hf⟩ := bn_some hf
        have fq2 := fq1.trans (frc_X6_farFrom t0 e9)
        obtain ⟨r11, μ10, e12, hf⟩ := bn_some hf
        have fq3 := fq2.trans (frc_X6_weightOf t0 e12)
        rcases Decidable.em (nrm r8 = nrm (-1)) with c13 | c13
        · have hf := ite_t c13 hf
          exact fq3.trans (frc_w_X6_firstOnward_67 _ ih t0 hf)
        · have hf := ite_f c13 hf
          rcases Decidable.em (nrm r11 = nrm (-1)) with c14 | c14
          · have hf := ite_t c14 hf
            exact fq3.trans (frc_w_X6_firstOnward_67 _ ih t0 hf)
          · have hf := ite_f c14 hf
            rcases Decidable.em (nrm (r8 + r11) = nrm x3) with c15 | c15
            · have hf := ite_t c15 hf
              cases hf; exact fq3
            · have hf := ite_f c15 hf
              exact fq3.trans (frc_w_X6_firstOnward_67 _ ih t0 hf)
theorem frc_X6_firstOnward {x0 x1 x2 : Int} {μ μ' : Mem} {r : Int} (t0 : isK x0 6) (hf : f_X6_firstOnward x0 x1 x2 μ = some (r, μ')) : FrC μ μ' := by
  unfold f_X6_firstOnward at hf
  obtain ⟨r2, μ1, e3, hf⟩ := bn_some hf
  have fq4 := (frc_X6_farFrom t0 e3)
  exact fq4.trans (frc_w_X6_firstOnward_9 FU _ _ _ _ _ _ _ _ t0 hf)
theorem frc_w_X6_laneOnWay_6 : ∀ (n : Nat) (x0 x1 x3 x4 x5 : Int) (μ μ' : Mem) (r : Int), isK x0 6 → f_X6_laneOnWay_w6 n x0 x1 x3 x4 x5 μ = some (r, μ') → FrC μ μ' := by
  intro n
  induction n with
  | zero => intro x0 x1 x3 x4 x5 μ μ' r t0 hf; cases hf
  | succ n ih =>
    intro x0 x1 x3 x4 x5 μ μ' r t0 hf
    rw [f_X6_laneOnWay_w6.eq_2] at hf
    rcases Decidable.em (nrm 9 ≤ nrm x5) with c1 | c1
    · have hf := ite_t c1 hf
      cases hf; exact frc_rf
    · have hf := ite_f c1 hf
      obtain ⟨r3, μ2, e4, hf⟩ := bn_some hf
      have fq1 := (frc_X6_firstOnward t0 e4)
      rcases Decidable.em (nrm r3 = nrm (-1)) with c5 | c5
      · have hf := ite_t c5 hf
        cases hf; exact fq1
      · have hf := ite_f c5 hf
        rcases Decidable.em (nrm x5 = nrm x3) with c6 | c6
        · have hf := ite_t c6 hf
          cases hf; exact fq1
        · have hf := ite_f c6 hf
          obtain ⟨g7, hf⟩ := gd_some hf
          obtain ⟨r9, μ8, e10, hf⟩ := bn_some hf
          have fq2 := fq1.trans (frc_X3_otherEnd g7 e10)
          exact fq2.trans (ih _ _ _ _ _ _ _ _ t0 hf)
theorem frc_X6_laneOnWay {x0 x1 x2 x3 : Int} {μ μ' : Mem} {r : Int} (t0 : isK x0 6) (hf : f_X6_laneOnWay x0 x1 x2 x3 μ = some (r, μ')) : FrC μ μ' := by
  unfold f_X6_laneOnWay at hf
  exact frc_w_X6_laneOnWay_6 FU _ _ _ _ _ _ _ _ t0 hf
theorem frc_w_X6_weightOfAll_44 (k5 : Int → Int → Int → Int → Int → Mem → Option (Int × Mem)) (h5 : ∀ (x0 x1 x2 x3 x4 : Int) (μ μ' : Mem) (r : Int), isK x0 6 → k5 x0 x1 x2 x3 x4 μ = some (r, μ') → FrC μ μ') {x0 x1 x2 x3 x4 : Int} {μ μ' : Mem} {r : Int} (t0 : isK x0 6) (hf : f_X6_weightOfAll_j44 k5 x0 x1 x2 x3 x4 μ = some (r, μ')) : FrC μ μ' := by
  unfold f_X6_weightOfAll_j44 at hf
  exact h5 _ _ _ _ _ _ _ _ t0 hf
theorem frc_w_X6_weightOfAll_5 : ∀ (n : Nat) (x0 x1 x2 x3 x4 : Int) (μ μ' : Mem) (r : Int), isK x0 6 → f_X6_weightOfAll_w5 n x0 x1 x2 x3 x4 μ = some (r, μ') → FrC μ μ' := by
  intro n
  induction n with
  | zero => intro x0 x1 x2 x3 x4 μ μ' r t0 hf; cases hf
  | succ n ih =>
    intro x0 x1 x2 x3 x4 μ μ' r t0 hf
    rw [f_X6_weightOfAll_w5.eq_2] at hf
    obtain ⟨g1, hf⟩ := gd_some hf
    rcases Decidable.em (nrm (μ x1 1) ≤ nrm x4) with c2 | c2
    · have hf := ite_t c2 hf
      cases hf; exact frc_rf
    · have hf := ite_f c2 hf
      rcases Decidable.em (nrm (jand (jshr x2 x4) 1) = 0) with c3 | c3
      · have hf := ite_t c3 hf
        exact frc_w_X6_weightOfAll_44 _ ih t0 hf
      · have hf := ite_f c3 hf
        obtain ⟨r5, μ4, e6, hf⟩ := bn_some hf
        have fq1 := (frc_X6_weightOf t0 e6)
        rcases Decidable.em (nrm r5 = nrm (-1)) with c7 | c7
        · have hf := ite_t c7 hf
          cases hf; exact fq1
        · have hf := ite_f c7 hf
          obtain ⟨v8, e9, hf⟩ := nm_some hf
          exact fq1.trans (frc_w_X6_weightOfAll_44 _ ih t0 hf)
theorem frc_X6_weightOfAll {x0 x1 x2 : Int} {μ μ' : Mem} {r : Int} (t0 : isK x0 6) (hf : f_X6_weightOfAll x0 x1 x2 μ = some (r, μ')) : FrC μ μ' := by
  unfold f_X6_weightOfAll at hf
  exact frc_w_X6_weightOfAll_5 FU _ _ _ _ _ _ _ _ t0 hf
theorem frc_w_X6_leastJoining_86 (k17 : Int → Int → Int → Int → Int → Int → Mem → Option (Int × Mem)) (h17 : ∀ (x0 x1 x2 x3 x4 x5 : Int) (μ μ' : Mem) (r : Int), isK x0 6 → k17 x0 x1 x2 x3 x4 x5 μ = some (r, μ') → FrC μ μ') {x0 x1 x2 x3 x4 x5 : Int} {μ μ' : Mem} {r : Int} (t0 : isK x0 6) (hf : f_X6_leastJoining_j86 k17 x0 x1 x2 x3 x4 x5 μ = some (r, μ')) : FrC μ μ' := by
  unfold f_X6_leastJoining_j86 at hf
  exact h17 _ _ _ _ _ _ _ _ _ t0 hf
theorem frc_w_X6_leastJoining_61 (k17 : Int → Int → Int → Int → Int → Int → Mem → Option (Int × Mem)) (h17 : ∀ (x0 x1 x2 x3 x4 x5 : Int) (μ μ' : Mem) (r : Int), isK x0 6 → k17 x0 x1 x2 x3 x4 x5 μ = some (r, μ') → FrC μ μ') {x0 x1 x2 x3 x4 x5 x6 s0 : Int} {μ μ' : Mem} {r : Int} (t0 : isK x0 6) (hf : f_X6_leastJoining_j61 k17 x0 x1 x2 x3 x4 x5 x6 s0 μ = some (r, μ')) : FrC μ μ' := by
  unfold f_X6_leastJoining_j61 at hf
  rcases Decidable.em (nrm s0 = 0) with c1 | c1
  · have hf := ite_t c1 hf
    exact frc_w_X6_leastJoining_86 _ h17 t0 hf
  · have hf := ite_f c1 hf
    obtain ⟨g2, hf⟩ := gd_some hf
    obtain ⟨r4, μ3, e5, hf⟩ := bn_some hf
    have fq1 := (frc_X3_comingFrom g2 e5)
    rcases Decidable.em (nrm r4 = nrm x2) with c6 | c6
    · have hf := ite_t c6 hf
      exact fq1.trans (frc_w_X6_leastJoining_86 _ h17 t0 hf)
    · have hf := ite_f c6 hf
      exact fq1.trans (frc_w_X6_leastJoining_86 _ h17 t0 hf)
theorem frc_w_X6_leastJoining_60 (k17 : Int → Int → Int → Int → Int → Int → Mem → Option (Int × Mem)) (h17 : ∀ (x0 x1 x2 x3 x4 x5 : Int) (μ μ' : Mem) (r : Int), isK x0 6 → k17 x0 x1 x2 x3 x4 x5 μ = some (r, μ') → FrC μ μ') {x0 x1 x2 x3 x4 x5 x6 : Int} {μ μ' : Mem} {r : Int} (t0 : isK x0 6) (hf : f_X6_leastJoining_j60 k17 x0 x1 x2 x3 x4 x5 x6 μ = some (r, μ')) : FrC μ μ' := by
  unfold f_X6_leastJoining_j60 at hf
  exact frc_w_X6_leastJoining_61 _ h17 t0 hf
theorem frc_w_X6_leastJoining_56 (k17 : Int → Int → Int → Int → Int → Int → Mem → Option (Int × Mem)) (h17 : ∀ (x0 x1 x2 x3 x4 x5 : Int) (μ μ' : Mem) (r : Int), isK x0 6 → k17 x0 x1 x2 x3 x4 x5 μ = some (r, μ') → FrC μ μ') {x0 x1 x2 x3 x4 x5 x6 : Int} {μ μ' : Mem} {r : Int} (t0 : isK x0 6) (hf : f_X6_leastJoining_j56 k17 x0 x1 x2 x3 x4 x5 x6 μ = some (r, μ')) : FrC μ μ' := by
  unfold f_X6_leastJoining_j56 at hf
  exact frc_w_X6_leastJoining_61 _ h17 t0 hf
theorem frc_w_X6_leastJoining_17 : ∀ (n : Nat) (x0 x1 x2 x3 x4 x5 : Int) (μ μ' : Mem) (r : Int), isK x0 6 → f_X6_leastJoining_w17 n x0 x1 x2 x3 x4 x5 μ = some (r, μ') → FrC μ μ' := by
  intro n
  induction n with
  | zero => intro x0 x1 x2 x3 x4 x5 μ μ' r t0 hf; cases hf
  | succ n ih =>
    intro x0 x1 x2 x3 x4 x5 μ μ' r t0 hf
    rw [f_X6_leastJoining_w17.eq_2] at hf
    obtain ⟨g1, hf⟩ := gd_some hf
    rcases Decidable.em (nrm (jshl 1 (μ x1 1)) ≤ nrm x5) with c2 | c2
    · have hf := ite_t c2 hf
      cases hf; exact frc_rf
    · have hf := ite_f c2 hf
      obtain ⟨r4, μ3, e5, hf⟩ := bn_some hf
      have fq2 := (frc_X6_weightOfAll t0 e5)
      rcases Decidable.em (nrm r4 = nrm (-1)) with c6 | c6
      · have hf := ite_t c6 hf
        exact fq2.trans (frc_w_X6_leastJoining_60 _ ih t0 hf)
      · have hf := ite_f c6 hf
        rcases Decidable.em (nrm x4 = nrm (-1)) with c7 | c7
        · have hf := ite_t c7 hf
          exact fq2.trans (frc_w_X6_leastJoining_56 _ ih t0 hf)
        · have hf := ite_f c7 hf
          rcases Decidable.em (nrm x4 ≤ nrm r4) with c8 | c8
          · have hf := ite_t c8 hf
            exact fq2.trans (frc_w_X6_leastJoining_60 _ ih t0 hf)
          · have hf := ite_f c8 hf
            exact fq2.trans (frc_w_X6_leastJoining_56 _ ih t0 hf)
theorem frc_X6_leastJoining {x0 x1 : Int} {μ μ' : Mem} {r : Int} (t0 : isK x0 6) (hf : f_X6_leastJoining x0 x1 μ = some (r, μ')) : FrC μ μ' := by
  unfold f_X6_leastJoining at hf
  obtain ⟨g1, hf⟩ := gd_some hf
  obtain ⟨v2, e3, hf⟩ := nm_some hf
  exact frc_w_X6_leastJoining_17 FU _ _ _ _ _ _ _ _ _ t0 hf
theorem frc_X9_byteAt {x0 x1 : Int} {μ μ' : Mem} {r : Int} (t0 : isK x0 9) (hf : f_X9_byteAt x0 x1 μ = some (r, μ')) : FrC μ μ' := by
  unfold f_X9_byteAt at hf
  rcases Decidable.em ((μ x0 3) < 0) with c1 | c1
  · have hf := ite_t c1 hf
    cases hf; exact frc_rf
  · have hf := ite_f c1 hf
    rcases Decidable.em (nrm x1 < 0) with c2 | c2
    · have hf := ite_t c2 hf
      cases hf; exact frc_rf
    · have hf := ite_f c2 hf
      rcases Decidable.em (nrm (μ x0 4) ≤ nrm x1) with c3 | c3
      · have hf := ite_t c3 hf
        cases hf; exact frc_rf
      · have hf := ite_f c3 hf
        obtain ⟨g4, hf⟩ := gd_some hf
        rcases Decidable.em (nrm x1 < nrm 900) with c5 | c5
        · have hf := ite_t c5 hf
          obtain ⟨g6, hf⟩ := gd_some hf
          cases hf; exact frc_rf
        · have hf := ite_f c5 hf
          cases hf; exact frc_rf
theorem frc_X9_isLetter {x0 : Int} {μ μ' : Mem} {r : Int} (hf : f_X9_isLetter x0 μ = some (r, μ')) : FrC μ μ' := by
  unfold f_X9_isLetter at hf
  rcases Decidable.em (nrm x0 < nrm 97) with c1 | c1
  · have hf := ite_t c1 hf
    cases hf; exact frc_rf
  · have hf := ite_f c1 hf
    rcases Decidable.em (nrm 122 < nrm x0) with c2 | c2
    · have hf := ite_t c2 hf
      cases hf; exact frc_rf
    · have hf := ite_f c2 hf
      cases hf; exact frc_rf
theorem frc_w_X9_isSame_7 : ∀ (n : Nat) (x0 x1 x2 x3 x4 : Int) (μ μ' : Mem) (r : Int), isK x0 9 → f_X9_isSame_w7 n x0 x1 x2 x3 x4 μ = some (r, μ') → FrC μ μ' := by
  intro n
  induction n with
  | zero => intro x0 x1 x2 x3 x4 μ μ' r t0 hf; cases hf
  | succ n ih =>
    intro x0 x1 x2 x3 x4 μ μ' r t0 hf
    rw [f_X9_isSame_w7.eq_2] at hf
    rcases Decidable.em (nrm x2 ≤ nrm x4) with c1 | c1
    · have hf := ite_t c1 hf
      cases hf; exact frc_rf
    · have hf := ite_f c1 hf
      rcases Decidable.em (nrm 107 ≤ nrm x4) with c2 | c2
      · have hf := ite_t c2 hf
        cases hf; exact frc_rf
      · have hf := ite_f c2 hf
        obtain ⟨g3, hf⟩ := gd_some hf
        obtain ⟨r5, μ4, e6, hf⟩ := bn_some hf
        have fq1 := (frc_X9_byteAt t0 e6)
        rcases Decidable.em (nrm (sch 0 (nrm x4)) = nrm r5) with c7 | c7
        · have hf := ite_t c7 hf
          exact fq1.trans (ih _ _ _ _ _ _ _ _ t0 hf)
        · have hf := ite_f c7 hf
          cases hf; exact fq1
theorem frc_X9_isSame {x0 x1 x2 x3 : Int} {μ μ' : Mem} {r : Int} (t0 : isK x0 9) (hf : f_X9_isSame x0 x1 x2 x3 μ = some (r, μ')) : FrC μ μ' := by
  unfold f_X9_isSame at hf
  obtain ⟨r2, μ1, e3, hf⟩ := bn_some hf
  have fq2 := (frc_J9_max_7cf53 e3)
  exact fq2.trans (frc_w_X9_isSame_7 FU _ _ _ _ _ _ _ _ t0 hf)
theorem frc_X9_keep {x0 x1 x2 x3 : Int} {μ μ' : Mem} {r : Int} (t0 : isK x0 9) (hf : f_X9_keep x0 x1 x2 x3 μ = some (r, μ')) : FrC μ μ' := by
  unfold f_X9_keep at hf
  rcases Decidable.em (nrm (μ x0 6) < 0) with c1 | c1
  · have hf := ite_t c1 hf
    cases hf; exact frc_rf
  · have hf := ite_f c1 hf
    rcases Decidable.em (nrm 901 ≤ nrm (μ x0 6)) with c2 | c2
    · have hf := ite_t c2 hf
      cases hf; exact frc_rf
    · have hf := ite_f c2 hf
      obtain ⟨g5, hf⟩ := gd_some hf
      obtain ⟨μ3, e4, hf⟩ := nm_some hf
      have fq1 := (frc_ms (by have := bd_9 t0; omega) e4)
      obtain ⟨μ6, e7, hf⟩ := nm_some hf
      have fq2 := fq1.trans (frc_ms (by have := bd_9 t0; omega) e7)
      cases hf; exact fq2
theorem frc_w_X9_takeWord_99 (k42 : Int → Int → Int → Int → Int → Int → Int → Mem → Option (Int × Mem)) (h42 : ∀ (x0 x1 x2 x3 x4 x5 x6 : Int) (μ μ' : Mem) (r : Int), isK x0 9 → k42 x0 x1 x2 x3 x4 x5 x6 μ = some (r, μ') → FrC μ μ') {x0 x1 x2 x3 x4 x5 x6 : Int} {μ μ' : Mem} {r : Int} (t0 : isK x0 9) (hf : f_X9_takeWord_j99 k42 x0 x1 x2 x3 x4 x5 x6 μ = some (r, μ')) : FrC μ μ' := by
  unfold f_X9_takeWord_j99 at hf
  exact h42 _ _ _ _ _ _ _ _ _ _ t0 hf
theorem frc_w_X9_takeWord_90 (k42 : Int → Int → Int → Int → Int → Int → Int → Mem → Option (Int × Mem)) (h42 : ∀ (x0 x1 x2 x3 x4 x5 x6 : Int) (μ μ' : Mem) (r : Int), isK x0 9 → k42 x0 x1 x2 x3 x4 x5 x6 μ = some (r, μ') → FrC μ μ') {x0 x1 x2 x3 x5 x6 : Int} {μ μ' : Mem} {r : Int} (t0 : isK x0 9) (hf : f_X9_takeWord_j90 k42 x0 x1 x2 x3 x5 x6 μ = some (r, μ')) : FrC μ μ' := by
  unfold f_X9_takeWord_j90 at hf
  obtain ⟨v1, e2, hf⟩ := nm_some hf
  exact frc_w_X9_takeWord_99 _ h42 t0 hf
theorem frc_w_X9_takeWord_42 : ∀ (n : Nat) (x0 x1 x2 x3 x4 x5 x6 : Int) (μ μ' : Mem) (r : Int), isK x0 9 → f_X9_takeWord_w42 n x0 x1 x2 x3 x4 x5 x6 μ = some (r, μ') → FrC μ μ' := by
  intro n
  induction n with
  | zero => intro x0 x1 x2 x3 x4 x5 x6 μ μ' r t0 hf; cases hf
  | succ n ih =>
    intro x0 x1 x2 x3 x4 x5 x6 μ μ' r t0 hf
    rw [f_X9_takeWord_w42.eq_2] at hf
    rcases Decidable.em (nrm 107 ≤ nrm x6) with c1 | c1
    · have hf := ite_t c1 hf
      obtain ⟨r3, μ2, e4, hf⟩ := bn_some hf
      have fq1 := (frc_X9_keep t0 e4)
      cases hf; exact fq1
    · have hf := ite_f c1 hf
      obtain ⟨g5, hf⟩ := gd_some hf
      rcases Decidable.em (nrm (sch 0 (nrm x6)) = nrm 32) with c6 | c6
      · have hf := ite_t c6 hf
        rcases Decidable.em (nrm (x6 - x4) = nrm (x2 - x1)) with c7 | c7
        · have hf := ite_t c7 hf
          obtain ⟨r9, μ8, e10, hf⟩ := bn_some hf
          have fq2 := (frc_X9_isSame t0 e10)
          rcases Decidable.em (nrm r9 = 0) with c11 | c11
          · have hf := ite_t c11 hf
            exact fq2.trans (frc_w_X9_takeWord_90 _ ih t0 hf)
          · have hf := ite_f c11 hf
            exact fq2.trans (frc_w_X9_takeWord_90 _ ih t0 hf)
        · have hf := ite_f c7 hf
          exact frc_w_X9_takeWord_90 _ ih t0 hf
      · have hf := ite_f c6 hf
        exact frc_w_X9_takeWord_99 _ ih t0 hf
theorem frc_w_X9_takeWord_29 {x0 x1 x2 : Int} {μ μ' : Mem} {r : Int} (t0 : isK x0 9) (hf : f_X9_takeWord_j29 x0 x1 x2 μ = some (r, μ')) : FrC μ μ' := by
  unfold f_X9_takeWord_j29 at hf
  exact frc_w_X9_takeWord_42 FU _ _ _ _ _ _ _ _ _ _ t0 hf
theorem frc_w_X9_takeWord_4 : ∀ (n : Nat) (x0 x1 x2 : Int) (μ μ' : Mem) (r : Int), isK x0 9 → f_X9_takeWord_w4 n x0 x1 x2 μ = some (r, μ') → FrC μ μ' := by
  intro n
  induction n with
  | zero => intro x0 x1 x2 μ μ' r t0 hf; cases hf
  | succ n ih =>
    intro x0 x1 x2 μ μ' r t0 hf
    rw [f_X9_takeWord_w4.eq_2] at hf
    rcases Decidable.em (nrm (μ x0 4) ≤ nrm x2) with c1 | c1
    · have hf := ite_t c1 hf
      exact frc_w_X9_takeWord_29 t0 hf
    · have hf := ite_f c1 hf
      obtain ⟨r3, μ2, e4, hf⟩ := bn_some hf
      have fq3 := (frc_X9_byteAt t0 e4)
      obtain ⟨r6, μ5, e7, hf⟩ := bn_some hf
      have fq4 := fq3.trans (frc_X9_isLetter e7)
      rcases Decidable.em (nrm r6 = 0) with c8 | c8
      · have hf := ite_t c8 hf
        exact fq4.trans (frc_w_X9_takeWord_29 t0 hf)
      · have hf := ite_f c8 hf
        exact fq4.trans (ih _ _ _ _ _ _ t0 hf)
theorem frc_X9_takeWord {x0 x1 : Int} {μ μ' : Mem} {r : Int} (t0 : isK x0 9) (hf : f_X9_takeWord x0 x1 μ = some (r, μ')) : FrC μ μ' := by
  unfold f_X9_takeWord at hf
  obtain ⟨v1, e2, hf⟩ := nm_some hf
  exact frc_w_X9_takeWord_4 FU _ _ _ _ _ _ t0 hf
theorem frc_X9_isDigit {x0 : Int} {μ μ' : Mem} {r : Int} (hf : f_X9_isDigit x0 μ = some (r, μ')) : FrC μ μ' := by
  unfold f_X9_isDigit at hf
  rcases Decidable.em (nrm x0 < nrm 48) with c1 | c1
  · have hf := ite_t c1 hf
    cases hf; exact frc_rf
  · have hf := ite_f c1 hf
    rcases Decidable.em (nrm 57 < nrm x0) with c2 | c2
    · have hf := ite_t c2 hf
      cases hf; exact frc_rf
    · have hf := ite_f c2 hf
      cases hf; exact frc_rf
theorem frc_w_X9_takeDigits_86 {x2 s0 s1 s2 s3 : Int} {μ μ' : Mem} {r : Int} (hb_s0 : s0 < 111) (hf : f_X9_takeDigits_j86 x2 s0 s1 s2 s3 μ = some (r, μ')) : FrC μ μ' := by
  unfold f_X9_takeDigits_j86 at hf
  obtain ⟨g1, hf⟩ := gd_some hf
  obtain ⟨r3, μ2, e4, hf⟩ := bn_some hf
  have fq1 := (frc_X9_keep g1 e4)
  cases hf; exact fq1
theorem frc_w_X9_takeDigits_75 {x1 x2 x3 x4 s0 s1 : Int} {μ μ' : Mem} {r : Int} (hb_s0 : s0 < 111) (hf : f_X9_takeDigits_j75 x1 x2 x3 x4 s0 s1 μ = some (r, μ')) : FrC μ μ' := by
  unfold f_X9_takeDigits_j75 at hf
  rcases Decidable.em (nrm x4 = 0) with c1 | c1
  · have hf := ite_t c1 hf
    exact frc_w_X9_takeDigits_86 (by omega) hf
  · have hf := ite_f c1 hf
    exact frc_w_X9_takeDigits_86 (by omega) hf
theorem frc_w_X9_takeDigits_62 {x0 x1 x2 x3 s0 : Int} {μ μ' : Mem} {r : Int} (t0 : isK x0 9) (hf : f_X9_takeDigits_j62 x0 x1 x2 x3 s0 μ = some (r, μ')) : FrC μ μ' := by
  unfold f_X9_takeDigits_j62 at hf
  rcases Decidable.em (nrm s0 = 0) with c1 | c1
  · have hf := ite_t c1 hf
    exact frc_w_X9_takeDigits_75 (by have := bd_9 t0; omega) hf
  · have hf := ite_f c1 hf
    exact frc_w_X9_takeDigits_75 (by have := bd_9 t0; omega) hf
theorem frc_w_X9_takeDigits_50 {x0 x1 x2 x3 : Int} {μ μ' : Mem} {r : Int} (t0 : isK x0 9) (hf : f_X9_takeDigits_j50 x0 x1 x2 x3 μ = some (r, μ')) : FrC μ μ' := by
  unfold f_X9_takeDigits_j50 at hf
  rcases Decidable.em (nrm 3 < nrm (x2 - x1)) with c1 | c1
  · have hf := ite_t c1 hf
    exact frc_w_X9_takeDigits_62 t0 hf
  · have hf := ite_f c1 hf
    exact frc_w_X9_takeDigits_62 t0 hf
theorem frc_w_X9_takeDigits_44 (k4 : Int → Int → Int → Int → Mem → Option (Int × Mem)) (h4 : ∀ (x0 x1 x2 x3 : Int) (μ μ' : Mem) (r : Int), isK x0 9 → k4 x0 x1 x2 x3 μ = some (r, μ') → FrC μ μ') {x0 x1 x2 x3 : Int} {μ μ' : Mem} {r : Int} (t0 : isK x0 9) (hf : f_X9_takeDigits_j44 k4 x0 x1 x2 x3 μ = some (r, μ')) : FrC μ μ' := by
  unfold f_X9_takeDigits_j44 at hf
  exact h4 _ _ _ _ _ _ _ t0 hf
theorem frc_w_X9_takeDigits_4 : ∀ (n : Nat) (x0 x1 x2 x3 : Int) (μ μ' : Mem) (r : Int), isK x0 9 → f_X9_takeDigits_w4 n x0 x1 x2 x3 μ = some (r, μ') → FrC μ μ' := by
  intro n
  induction n with
  | zero => intro x0 x1 x2 x3 μ μ' r t0 hf; cases hf
  | succ n ih =>
    intro x0 x1 x2 x3 μ μ' r t0 hf
    rw [f_X9_takeDigits_w4.eq_2] at hf
    rcases Decidable.em (nrm (μ x0 4) ≤ nrm x2) with c1 | c1
    · have hf := ite_t c1 hf
      exact frc_w_X9_takeDigits_50 t0 hf
    · have hf := ite_f c1 hf
      obtain ⟨r3, μ2, e4, hf⟩ := bn_some hf
      have fq2 := (frc_X9_byteAt t0 e4)
      obtain ⟨r6, μ5, e7, hf⟩ := bn_some hf
      have fq3 := fq2.trans (frc_X9_isDigit e7)
      rcases Decidable.em (nrm r6 = 0) with c8 | c8
      · have hf := ite_t c8 hf
        exact fq3.trans (frc_w_X9_takeDigits_50 t0 hf)
      · have hf := ite_f c8 hf
        rcases Decidable.em (nrm 3 ≤ nrm (x2 - x1)) with c9 | c9
        · have hf := ite_t c9 hf
          exact fq3.trans (frc_w_X9_takeDigits_44 _ ih t0 hf)
        · have hf := ite_f c9 hf
          obtain ⟨r11, μ10, e12, hf⟩ := bn_some hf
          have fq4 := fq3.trans (frc_X9_byteAt t0 e12)
          obtain ⟨v13, e14, hf⟩ := nm_some hf
          exact fq4.trans (frc_w_X9_takeDigits_44 _ ih t0 hf)
theorem frc_X9_takeDigits {x0 x1 : Int} {μ μ' : Mem} {r : Int} (t0 : isK x0 9) (hf : f_X9_takeDigits x0 x1 μ = some (r, μ')) : FrC μ μ' := by
  unfold f_X9_takeDigits at hf
  exact frc_w_X9_takeDigits_4 FU _ _ _ _ _ _ _ t0 hf
theorem frc_X9_advance {x0 : Int} {μ μ' : Mem} {r : Int} (t0 : isK x0 9) (hf : f_X9_advance x0 μ = some (r, μ')) : FrC μ μ' := by
  unfold f_X9_advance at hf
  rcases Decidable.em (nrm (μ x0 7) < 0) with c1 | c1
  · have hf := ite_t c1 hf
    cases hf; exact frc_rf
  · have hf := ite_f c1 hf
    rcases Decidable.em (nrm (μ x0 6) ≤ nrm (μ x0 7)) with c2 | c2
    · have hf := ite_t c2 hf
      cases hf; exact frc_rf
    · have hf := ite_f c2 hf
      rcases Decidable.em (nrm 901 ≤ nrm (μ x0 7)) with c3 | c3
      · have hf := ite_t c3 hf
        cases hf; exact frc_rf
      · have hf := ite_f c3 hf
        obtain ⟨g4, hf⟩ := gd_some hf
        obtain ⟨μ5, e6, hf⟩ := nm_some hf
        have fq1 := (frc_ms (by have := bd_9 t0; omega) e6)
        obtain ⟨g7, hf⟩ := gd_some hf
        obtain ⟨μ8, e9, hf⟩ := nm_some hf
        have fq2 := fq1.trans (frc_ms (by have := bd_9 t0; omega) e9)
        obtain ⟨g10, hf⟩ := gd_some hf
        obtain ⟨μ11, e12, hf⟩ := nm_some hf
        have fq3 := fq2.trans (frc_ms (by have := bd_9 t0; omega) e12)
        obtain ⟨μ13, e14, hf⟩ := nm_some hf
        have fq4 := fq3.trans (frc_ms (by have := bd_9 t0; omega) e14)
        cases hf; exact fq4
theorem frc_w_X9_begin_142 {x0 : Int} {μ μ' : Mem} {r : Int} (t0 : isK x0 9) (hf : f_X9_begin_j142 x0 μ = some (r, μ')) : FrC μ μ' := by
  unfold f_X9_begin_j142 at hf
  obtain ⟨r2, μ1, e3, hf⟩ := bn_some hf
  have fq1 := (frc_X9_keep t0 e3)
  obtain ⟨μ4, e5, hf⟩ := nm_some hf
  have fq2 := fq1.trans (frc_ms (by have := bd_9 t0; omega) e5)
  obtain ⟨r7, μ6, e8, hf⟩ := bn_some hf
  have fq3 := fq2.trans (frc_X9_advance t0 e8)
  cases hf; exact fq3
theorem frc_w_X9_begin_136 (k33 : Int → Int → Int → Mem → Option (Int × Mem)) (h33 : ∀ (x0 x3 x4 : Int) (μ μ' : Mem) (r : Int), isK x0 9 → k33 x0 x3 x4 μ = some (r, μ') → FrC μ μ') {x0 x3 x4 : Int} {μ μ' : Mem} {r : Int} (t0 : isK x0 9) (hf : f_X9_begin_j136 k33 x0 x3 x4 μ = some (r, μ')) : FrC μ μ' := by
  unfold f_X9_begin_j136 at hf
  exact h33 _ _ _ _ _ _ t0 hf
theorem frc_w_X9_begin_70 (k33 : Int → Int → Int → Mem → Option (Int × Mem)) (h33 : ∀ (x0 x3 x4 : Int) (μ μ' : Mem) (r : Int), isK x0 9 → k33 x0 x3 x4 μ = some (r, μ') → FrC μ μ') {x0 x3 x4 : Int} {μ μ' : Mem} {r : Int} (t0 : isK x0 9) (hf : f_X9_begin_j70 k33 x0 x3 x4 μ = some (r, μ')) : FrC μ μ' := by
  unfold f_X9_begin_j70 at hf
  exact frc_w_X9_begin_136 _ h33 t0 hf
theorem frc_w_X9_begin_128 (k33 : Int → Int → Int → Mem → Option (Int × Mem)) (h33 : ∀ (x0 x3 x4 : Int) (μ μ' : Mem) (r : Int), isK x0 9 → k33 x0 x3 x4 μ = some (r, μ') → FrC μ μ') {x0 x3 x4 s0 s1 : Int} {μ μ' : Mem} {r : Int} (hb_s0 : s0 < 111) (t0 : isK x0 9) (hf : f_X9_begin_j128 k33 x0 x3 x4 s0 s1 μ = some (r, μ')) : FrC μ μ' := by
  unfold f_X9_begin_j128 at hf
  obtain ⟨g1, hf⟩ := gd_some hf
  obtain ⟨r3, μ2, e4, hf⟩ := bn_some hf
  have fq4 := (frc_X9_keep g1 e4)
  exact fq4.trans (frc_w_X9_begin_136 _ h33 t0 hf)
theorem frc_w_X9_begin_33 : ∀ (n : Nat) (x0 x3 x4 : Int) (μ μ' : Mem) (r : Int), isK x0 9 → f_X9_begin_w33 n x0 x3 x4 μ = some (r, μ') → FrC μ μ' := by
  intro n
  induction n with
  | zero => intro x0 x3 x4 μ μ' r t0 hf; cases hf
  | succ n ih =>
    intro x0 x3 x4 μ μ' r t0 hf
    rw [f_X9_begin_w33.eq_2] at hf
    rcases Decidable.em (nrm 900 ≤ nrm x4) with c1 | c1
    · have hf := ite_t c1 hf
      exact frc_w_X9_begin_142 t0 hf
    · have hf := ite_f c1 hf
      rcases Decidable.em (nrm (μ x0 4) ≤ nrm x3) with c2 | c2
      · have hf := ite_t c2 hf
        exact frc_w_X9_begin_142 t0 hf
      · have hf := ite_f c2 hf
        obtain ⟨r4, μ3, e5, hf⟩ := bn_some hf
        have fq5 := (frc_X9_byteAt t0 e5)
        rcases Decidable.em (nrm r4 = nrm 10) with c6 | c6
        · have hf := ite_t c6 hf
          exact fq5.trans (frc_w_X9_begin_70 _ ih t0 hf)
        · have hf := ite_f c6 hf
          rcases Decidable.em (nrm r4 = nrm 32) with c7 | c7
          · have hf := ite_t c7 hf
            exact fq5.trans (frc_w_X9_begin_70 _ ih t0 hf)
          · have hf := ite_f c7 hf
            obtain ⟨r9, μ8, e10, hf⟩ := bn_some hf
            have fq6 := fq5.trans (frc_X9_isLetter e10)
            rcases Decidable.em (nrm r9 = 0) with c11 | c11
            · have hf := ite_t c11 hf
              obtain ⟨r13, μ12, e14, hf⟩ := bn_some hf
              have fq7 := fq6.trans (frc_X9_isDigit e14)
              rcases Decidable.em (nrm r13 = 0) with c15 | c15
              · have hf := ite_t c15 hf
                obtain ⟨g16, hf⟩ := gd_some hf
                rcases Decidable.em (nrm (six 1 (nrm (jc r4))) < 0) with c17 | c17
                · have hf := ite_t c17 hf
                  exact fq7.trans (frc_w_X9_begin_128 _ ih (by have := bd_9 t0; omega) t0 hf)
                · have hf := ite_f c17 hf
                  exact fq7.trans (frc_w_X9_begin_128 _ ih (by have := bd_9 t0; omega) t0 hf)
              · have hf := ite_f c15 hf
                obtain ⟨r19, μ18, e20, hf⟩ := bn_some hf
                have fq8 := fq7.trans (frc_X9_takeDigits t0 e20)
                exact fq8.trans (frc_w_X9_begin_136 _ ih t0 hf)
            · have hf := ite_f c11 hf
              obtain ⟨r22, μ21, e23, hf⟩ := bn_some hf
              have fq9 := fq6.trans (frc_X9_takeWord t0 e23)
              exact fq9.trans (frc_w_X9_begin_136 _ ih t0 hf)
theorem frc_w_X9_begin_20 {x0 s0 s1 : Int} {μ μ' : Mem} {r : Int} (hb_s0 : s0 < 111) (t0 : isK x0 9) (hf : f_X9_begin_j20 x0 s0 s1 μ = some (r, μ')) : FrC μ μ' := by
  unfold f_X9_begin_j20 at hf
  obtain ⟨g1, hf⟩ := gd_some hf
  obtain ⟨μ2, e3, hf⟩ := nm_some hf
  have fq10 := (frc_ms (by have := bd_9 g1; omega) e3)
  obtain ⟨μ4, e5, hf⟩ := nm_some hf
  have fq11 := fq10.trans (frc_ms (by have := bd_9 t0; omega) e5)
  exact fq11.trans (frc_w_X9_begin_33 FU _ _ _ _ _ _ t0 hf)
theorem frc_X9_begin {x0 x1 x2 : Int} {μ μ' : Mem} {r : Int} (t0 : isK x0 9) (hf : f_X9_begin x0 x1 x2 μ = some (r, μ')) : FrC μ μ' := by
  unfold f_X9_begin at hf
  obtain ⟨μ1, e2, hf⟩ := nm_some hf
  have fq12 := (frc_ms (by have := bd_9 t0; omega) e2)
  rcases Decidable.em (x1 < 0) with c3 | c3
  · have hf := ite_t c3 hf
    exact fq12.trans (frc_w_X9_begin_20 (by have := bd_9 t0; omega) t0 hf)
  · have hf := ite_f c3 hf
    obtain ⟨g4, hf⟩ := gd_some hf
    obtain ⟨r6, μ5, e7, hf⟩ := bn_some hf
    have fq13 := fq12.trans (frc_J9_min_7cf53 e7)
    exact fq13.trans (frc_w_X9_begin_20 (by have := bd_9 t0; omega) t0 hf)
theorem frc_w_X7_refuse_17 {x0 s0 s1 : Int} {μ μ' : Mem} {r : Int} (hb_s0 : s0 < 111) (t0 : isK x0 7) (hf : f_X7_refuse_j17 x0 s0 s1 μ = some (r, μ')) : FrC μ μ' := by
  unfold f_X7_refuse_j17 at hf
  obtain ⟨g1, hf⟩ := gd_some hf
  obtain ⟨μ2, e3, hf⟩ := nm_some hf
  have fq1 := (frc_ms (by have := bd_7 g1; omega) e3)
  obtain ⟨μ4, e5, hf⟩ := nm_some hf
  have fq2 := fq1.trans (frc_ms (by have := bd_7 t0; omega) e5)
  cases hf; exact fq2
theorem frc_X7_refuse {x0 x1 : Int} {μ μ' : Mem} {r : Int} (t0 : isK x0 7) (hf : f_X7_refuse x0 x1 μ = some (r, μ')) : FrC μ μ' := by
  unfold f_X7_refuse at hf
  rcases Decidable.em (nrm (μ (x0 + 1) 0) = nrm 1) with c1 | c1
  · have hf := ite_t c1 hf
    exact frc_w_X7_refuse_17 (by have := bd_7 t0; omega) t0 hf
  · have hf := ite_f c1 hf
    exact frc_w_X7_refuse_17 (by have := bd_7 t0; omega) t0 hf
theorem frc_X7_take {x0 x1 : Int} {μ μ' : Mem} {r : Int} (t0 : isK x0 7) (hf : f_X7_take x0 x1 μ = some (r, μ')) : FrC μ μ' := by
  unfold f_X7_take at hf
  rcases Decidable.em (nrm (μ (x0 + 1) 0) = nrm x1) with c1 | c1
  · have hf := ite_t c1 hf
    obtain ⟨r3, μ2, e4, hf⟩ := bn_some hf
    have fq1 := (frc_X9_advance (ow_7_0 t0) e4)
    cases hf; exact fq1
  · have hf := ite_f c1 hf
    obtain ⟨r6, μ5, e7, hf⟩ := bn_some hf
    have fq2 := (frc_X7_refuse t0 e7)
    obtain ⟨g8, hf⟩ := gd_some hf
    cases hf; exact fq2
theorem frc_w_X7_takeNumber_50 {x0 : Int} {μ μ' : Mem} {r : Int} (t0 : isK x0 7) (hf : f_X7_takeNumber_j50 x0 μ = some (r, μ')) : FrC μ μ' := by
  unfold f_X7_takeNumber_j50 at hf
  obtain ⟨r2, μ1, e3, hf⟩ := bn_some hf
  have fq1 := (frc_X7_refuse t0 e3)
  obtain ⟨g4, hf⟩ := gd_some hf
  cases hf; exact fq1
theorem frc_X7_takeNumber {x0 x1 x2 x3 : Int} {μ μ' : Mem} {r : Int} (t0 : isK x0 7) (hf : f_X7_takeNumber x0 x1 x2 x3 μ = some (r, μ')) : FrC μ μ' := by
  unfold f_X7_takeNumber at hf
  rcases Decidable.em (nrm (μ (x0 + 1) 0) = nrm 2) with c1 | c1
  · have hf := ite_t c1 hf
    rcases Decidable.em (nrm (μ (x0 + 1) 2) < nrm x1) with c2 | c2
    · have hf := ite_t c2 hf
      exact frc_w_X7_takeNumber_50 t0 hf
    · have hf := ite_f c2 hf
      rcases Decidable.em (nrm x2 < nrm (μ (x0 + 1) 2)) with c3 | c3
      · have hf := ite_t c3 hf
        exact frc_w_X7_takeNumber_50 t0 hf
      · have hf := ite_f c3 hf
        rcases Decidable.em (nrm (μ (x0 + 1) 2) = nrm x3) with c4 | c4
        · have hf := ite_t c4 hf
          exact frc_w_X7_takeNumber_50 t0 hf
        · have hf := ite_f c4 hf
          obtain ⟨μ5, e6, hf⟩ := nm_some hf
          have fq2 := (frc_ms (by have := bd_7 t0; omega) e6)
          obtain ⟨r8, μ7, e9, hf⟩ := bn_some hf
          have fq3 := fq2.trans (frc_X9_advance (ow_7_0 t0) e9)
          cases hf; exact fq3
  · have hf := ite_f c1 hf
    obtain ⟨r11, μ10, e12, hf⟩ := bn_some hf
    have fq4 := (frc_X7_refuse t0 e12)
    obtain ⟨g13, hf⟩ := gd_some hf
    cases hf; exact fq4
theorem frc_X7_takeLineEnd {x0 : Int} {μ μ' : Mem} {r : Int} (t0 : isK x0 7) (hf : f_X7_takeLineEnd x0 μ = some (r, μ')) : FrC μ μ' := by
  unfold f_X7_takeLineEnd at hf
  obtain ⟨r2, μ1, e3, hf⟩ := bn_some hf
  have fq1 := (frc_X7_take t0 e3)
  rcases Decidable.em (nrm r2 = 0) with c4 | c4
  · have hf := ite_t c4 hf
    cases hf; exact fq1
  · have hf := ite_f c4 hf
    obtain ⟨g5, hf⟩ := gd_some hf
    obtain ⟨μ6, e7, hf⟩ := nm_some hf
    have fq2 := fq1.trans (frc_ms (by have := bd_3 g5; omega) e7)
    cases hf; exact fq2
theorem frc_X7_readLandLine {x0 : Int} {μ μ' : Mem} {r : Int} (t0 : isK x0 7) (hf : f_X7_readLandLine x0 μ = some (r, μ')) : FrC μ μ' := by
  unfold f_X7_readLandLine at hf
  obtain ⟨r2, μ1, e3, hf⟩ := bn_some hf
  have fq1 := (frc_X7_take t0 e3)
  rcases Decidable.em (nrm r2 = 0) with c4 | c4
  · have hf := ite_t c4 hf
    cases hf; exact fq1
  · have hf := ite_f c4 hf
    obtain ⟨r6, μ5, e7, hf⟩ := bn_some hf
    have fq2 := fq1.trans (frc_X7_take t0 e7)
    rcases Decidable.em (nrm r6 = 0) with c8 | c8
    · have hf := ite_t c8 hf
      cases hf; exact fq2
    · have hf := ite_f c8 hf
      obtain ⟨r10, μ9, e11, hf⟩ := bn_some hf
      have fq3 := fq2.trans (frc_X7_takeNumber t0 e11)
      rcases Decidable.em (nrm r10 = 0) with c12 | c12
      · have hf := ite_t c12 hf
        cases hf; exact fq3
      · have hf := ite_f c12 hf
        obtain ⟨g13, hf⟩ := gd_some hf
        obtain ⟨μ14, e15, hf⟩ := nm_some hf
        have fq4 := fq3.trans (frc_ms (by have := bd_3 g13; omega) e15)
        obtain ⟨r17, μ16, e18, hf⟩ := bn_some hf
        have fq5 := fq4.trans (frc_X7_takeLineEnd t0 e18)
        obtain ⟨g19, hf⟩ := gd_some hf
        cases hf; exact fq5
theorem frc_w_X7_readFlag_68 {x0 x1 x2 s0 : Int} {μ μ' : Mem} {r : Int} (t0 : isK x0 7) (hf : f_X7_readFlag_j68 x0 x1 x2 s0 μ = some (r, μ')) : FrC μ μ' := by
  unfold f_X7_readFlag_j68 at hf
  obtain ⟨r2, μ1, e3, hf⟩ := bn_some hf
  have fq1 := (frc_X7_takeNumber t0 e3)
  rcases Decidable.em (nrm r2 = 0) with c4 | c4
  · have hf := ite_t c4 hf
    cases hf; exact fq1
  · have hf := ite_f c4 hf
    rcases Decidable.em (nrm x2 = nrm 131) with c5 | c5
    · have hf := ite_t c5 hf
      obtain ⟨g15, hf⟩ := gd_some hf
      obtain ⟨g18, hf⟩ := gd_some hf
      obtain ⟨μ16, e17, hf⟩ := nm_some hf
      have fq4 := fq1.trans (frc_ms (by have := bd_3 g15; omega) e17)
      cases hf; exact fq4
    · have hf := ite_f c5 hf
      rcases Decidable.em (nrm x2 = nrm 132) with c6 | c6
      · have hf := ite_t c6 hf
        obtain ⟨g11, hf⟩ := gd_some hf
        obtain ⟨g14, hf⟩ := gd_some hf
        obtain ⟨μ12, e13, hf⟩ := nm_some hf
        have fq3 := fq1.trans (frc_ms (by have := bd_3 g11; omega) e13)
        cases hf; exact fq3
      · have hf := ite_f c6 hf
        obtain ⟨g7, hf⟩ := gd_some hf
        obtain ⟨g10, hf⟩ := gd_some hf
        obtain ⟨μ8, e9, hf⟩ := nm_some hf
        have fq2 := fq1.trans (frc_ms (by have := bd_3 g7; omega) e9)
        cases hf; exact fq2
theorem frc_w_X7_readFlag_35 {x0 x1 x2 : Int} {μ μ' : Mem} {r : Int} (t0 : isK x0 7) (hf : f_X7_readFlag_j35 x0 x1 x2 μ = some (r, μ')) : FrC μ μ' := by
  unfold f_X7_readFlag_j35 at hf
  obtain ⟨r2, μ1, e3, hf⟩ := bn_some hf
  have fq5 := (frc_X9_advance (ow_7_0 t0) e3)
  rcases Decidable.em (nrm x2 = nrm 131) with c4 | c4
  · have hf := ite_t c4 hf
    exact fq5.trans (frc_w_X7_readFlag_68 t0 hf)
  · have hf := ite_f c4 hf
    rcases Decidable.em (nrm x2 = nrm 132) with c5 | c5
    · have hf := ite_t c5 hf
      exact fq5.trans (frc_w_X7_readFlag_68 t0 hf)
    · have hf := ite_f c5 hf
      exact fq5.trans (frc_w_X7_readFlag_68 t0 hf)
theorem frc_X7_readFlag {x0 x1 : Int} {μ μ' : Mem} {r : Int} (t0 : isK x0 7) (hf : f_X7_readFlag x0 x1 μ = some (r, μ')) : FrC μ μ' := by
  unfold f_X7_readFlag at hf
  obtain ⟨v1, e2, hf⟩ := nm_some hf
  rcases Decidable.em (nrm v1 = nrm 131) with c3 | c3
  · have hf := ite_t c3 hf
    exact frc_w_X7_readFlag_35 t0 hf
  · have hf := ite_f c3 hf
    rcases Decidable.em (nrm v1 = nrm 132) with c4 | c4
    · have hf := ite_t c4 hf
      exact frc_w_X7_readFlag_35 t0 hf
    · have hf := ite_f c4 hf
      rcases Decidable.em (nrm v1 = nrm 133) with c5 | c5
      · have hf := ite_t c5 hf
        exact frc_w_X7_readFlag_35 t0 hf
      · have hf := ite_f c5 hf
        obtain ⟨r7, μ6, e8, hf⟩ := bn_some hf
        have fq6 := (frc_X7_refuse t0 e8)
        obtain ⟨g9, hf⟩ := gd_some hf
        cases hf; exact fq6
theorem frc_w_X7_readLane_18 {x0 : Int} {μ μ' : Mem} {r : Int} (t0 : isK x0 7) (hf : f_X7_readLane_j18 x0 μ = some (r, μ')) : FrC μ μ' := by
  unfold f_X7_readLane_j18 at hf
  obtain ⟨r2, μ1, e3, hf⟩ := bn_some hf
  have fq1 := (frc_X7_refuse t0 e3)
  obtain ⟨g4, hf⟩ := gd_some hf
  cases hf; exact fq1
theorem frc_w_X7_readLane_137 {x0 : Int} {μ μ' : Mem} {r : Int} (t0 : isK x0 7) (hf : f_X7_readLane_j137 x0 μ = some (r, μ')) : FrC μ μ' := by
  unfold f_X7_readLane_j137 at hf
  obtain ⟨g1, hf⟩ := gd_some hf
  obtain ⟨μ2, e3, hf⟩ := nm_some hf
  have fq2 := (frc_ms (by have := bd_3 g1; omega) e3)
  obtain ⟨r5, μ4, e6, hf⟩ := bn_some hf
  have fq3 := fq2.trans (frc_X7_takeLineEnd t0 e6)
  obtain ⟨g7, hf⟩ := gd_some hf
  cases hf; exact fq3
theorem frc_w_X7_readLane_102 : ∀ (n : Nat) (x0 x1 x2 : Int) (μ μ' : Mem) (r : Int), isK x0 7 → f_X7_readLane_w102 n x0 x1 x2 μ = some (r, μ') → FrC μ μ' := by
  intro n
  induction n with
  | zero => intro x0 x1 x2 μ μ' r t0 hf; cases hf
  | succ n ih =>
    intro x0 x1 x2 μ μ' r t0 hf
    rw [f_X7_readLane_w102.eq_2] at hf
    rcases Decidable.em (nrm 900 ≤ nrm x2) with c1 | c1
    · have hf := ite_t c1 hf
      exact frc_w_X7_readLane_137 t0 hf
    · have hf := ite_f c1 hf
      rcases Decidable.em (nrm (μ (x0 + 1) 0) = nrm 59) with c2 | c2
      · have hf := ite_t c2 hf
        exact frc_w_X7_readLane_137 t0 hf
      · have hf := ite_f c2 hf
        obtain ⟨r4, μ3, e5, hf⟩ := bn_some hf
        have fq4 := (frc_X7_readFlag t0 e5)
        rcases Decidable.em (nrm r4 = 0) with c6 | c6
        · have hf := ite_t c6 hf
          cases hf; exact fq4
        · have hf := ite_f c6 hf
          exact fq4.trans (ih _ _ _ _ _ _ t0 hf)
theorem frc_X7_readLane {x0 : Int} {μ μ' : Mem} {r : Int} (t0 : isK x0 7) (hf : f_X7_readLane x0 μ = some (r, μ')) : FrC μ μ' := by
  unfold f_X7_readLane at hf
  obtain ⟨g1, hf⟩ := gd_some hf
  obtain ⟨v2, e3, hf⟩ := nm_some hf
  rcases Decidable.em (nrm v2 < 0) with c4 | c4
  · have hf := ite_t c4 hf
    exact frc_w_X7_readLane_18 t0 hf
  · have hf := ite_f c4 hf
    rcases Decidable.em (nrm v2 < nrm 9) with c5 | c5
    · have hf := ite_t c5 hf
      obtain ⟨r7, μ6, e8, hf⟩ := bn_some hf
      have fq5 := (frc_X9_advance (ow_7_0 t0) e8)
      obtain ⟨g9, hf⟩ := gd_some hf
      obtain ⟨r11, μ10, e12, hf⟩ := bn_some hf
      have fq6 := fq5.trans (frc_X7_takeNumber t0 e12)
      rcases Decidable.em (nrm r11 = 0) with c13 | c13
      · have hf := ite_t c13 hf
        cases hf; exact fq6
      · have hf := ite_f c13 hf
        obtain ⟨g14, hf⟩ := gd_some hf
        obtain ⟨g17, hf⟩ := gd_some hf
        obtain ⟨μ15, e16, hf⟩ := nm_some hf
        have fq7 := fq6.trans (frc_ms (by have := bd_3 g14; omega) e16)
        obtain ⟨g18, hf⟩ := gd_some hf
        obtain ⟨r20, μ19, e21, hf⟩ := bn_some hf
        have fq8 := fq7.trans (frc_X7_takeNumber t0 e21)
        rcases Decidable.em (nrm r20 = 0) with c22 | c22
        · have hf := ite_t c22 hf
          cases hf; exact fq8
        · have hf := ite_f c22 hf
          obtain ⟨g23, hf⟩ := gd_some hf
          obtain ⟨g26, hf⟩ := gd_some hf
          obtain ⟨μ24, e25, hf⟩ := nm_some hf
          have fq9 := fq8.trans (frc_ms (by have := bd_3 g23; omega) e25)
          exact fq9.trans (frc_w_X7_readLane_102 FU _ _ _ _ _ _ t0 hf)
    · have hf := ite_f c5 hf
      exact frc_w_X7_readLane_18 t0 hf
theorem frc_X7_readCart {x0 : Int} {μ μ' : Mem} {r : Int} (t0 : isK x0 7) (hf : f_X7_readCart x0 μ = some (r, μ')) : FrC μ μ' := by
  unfold f_X7_readCart at hf
  obtain ⟨r2, μ1, e3, hf⟩ := bn_some hf
  have fq1 := (frc_X9_advance (ow_7_0 t0) e3)
  obtain ⟨r5, μ4, e6, hf⟩ := bn_some hf
  have fq2 := fq1.trans (frc_X7_take t0 e6)
  rcases Decidable.em (nrm r5 = 0) with c7 | c7
  · have hf := ite_t c7 hf
    cases hf; exact fq2
  · have hf := ite_f c7 hf
    obtain ⟨g8, hf⟩ := gd_some hf
    obtain ⟨r10, μ9, e11, hf⟩ := bn_some hf
    have fq3 := fq2.trans (frc_X7_takeNumber t0 e11)
    rcases Decidable.em (nrm r10 = 0) with c12 | c12
    · have hf := ite_t c12 hf
      cases hf; exact fq3
    · have hf := ite_f c12 hf
      obtain ⟨g13, hf⟩ := gd_some hf
      obtain ⟨μ14, e15, hf⟩ := nm_some hf
      have fq4 := fq3.trans (frc_ms (by have := bd_3 g13; omega) e15)
      obtain ⟨r17, μ16, e18, hf⟩ := bn_some hf
      have fq5 := fq4.trans (frc_X7_take t0 e18)
      rcases Decidable.em (nrm r17 = 0) with c19 | c19
      · have hf := ite_t c19 hf
        cases hf; exact fq5
      · have hf := ite_f c19 hf
        obtain ⟨r21, μ20, e22, hf⟩ := bn_some hf
        have fq6 := fq5.trans (frc_X7_takeNumber t0 e22)
        rcases Decidable.em (nrm r21 = 0) with c23 | c23
        · have hf := ite_t c23 hf
          cases hf; exact fq6
        · have hf := ite_f c23 hf
          obtain ⟨g24, hf⟩ := gd_some hf
          obtain ⟨μ25, e26, hf⟩ := nm_some hf
          have fq7 := fq6.trans (frc_ms (by have := bd_3 g24; omega) e26)
          obtain ⟨r28, μ27, e29, hf⟩ := bn_some hf
          have fq8 := fq7.trans (frc_X7_takeLineEnd t0 e29)
          obtain ⟨g30, hf⟩ := gd_some hf
          cases hf; exact fq8
theorem frc_w_X7_readPerson_18 {x0 : Int} {μ μ' : Mem} {r : Int} (t0 : isK x0 7) (hf : f_X7_readPerson_j18 x0 μ = some (r, μ')) : FrC μ μ' := by
  unfold f_X7_readPerson_j18 at hf
  obtain ⟨r2, μ1, e3, hf⟩ := bn_some hf
  have fq1 := (frc_X7_refuse t0 e3)
  obtain ⟨g4, hf⟩ := gd_some hf
  cases hf; exact fq1
theorem frc_w_X7_readPerson_117 {x0 : Int} {μ μ' : Mem} {r : Int} (t0 : isK x0 7) (hf : f_X7_readPerson_j117 x0 μ = some (r, μ')) : FrC μ μ' := by
  unfold f_X7_readPerson_j117 at hf
  obtain ⟨g1, hf⟩ := gd_some hf
  obtain ⟨μ2, e3, hf⟩ := nm_some hf
  have fq2 := (frc_ms (by have := bd_3 g1; omega) e3)
  obtain ⟨r5, μ4, e6, hf⟩ := bn_some hf
  have fq3 := fq2.trans (frc_X7_takeLineEnd t0 e6)
  obtain ⟨g7, hf⟩ := gd_some hf
  cases hf; exact fq3
theorem frc_w_X7_readPerson_69 : ∀ (n : Nat) (x0 x1 x2 : Int) (μ μ' : Mem) (r : Int), isK x0 7 → f_X7_readPerson_w69 n x0 x1 x2 μ = some (r, μ') → FrC μ μ' := by
  intro n
  induction n with
  | zero => intro x0 x1 x2 μ μ' r t0 hf; cases hf
  | succ n ih =>
    intro x0 x1 x2 μ μ' r t0 hf
    rw [f_X7_readPerson_w69.eq_2] at hf
    rcases Decidable.em (nrm 900 ≤ nrm x2) with c1 | c1
    · have hf := ite_t c1 hf
      exact frc_w_X7_readPerson_117 t0 hf
    · have hf := ite_f c1 hf
      rcases Decidable.em (nrm (μ (x0 + 1) 0) = nrm 139) with c2 | c2
      · have hf := ite_t c2 hf
        obtain ⟨g3, hf⟩ := gd_some hf
        obtain ⟨μ4, e5, hf⟩ := nm_some hf
        have fq4 := (frc_ms (by have := bd_3 g3; omega) e5)
        obtain ⟨r7, μ6, e8, hf⟩ := bn_some hf
        have fq5 := fq4.trans (frc_X9_advance (ow_7_0 t0) e8)
        exact fq5.trans (ih _ _ _ _ _ _ t0 hf)
      · have hf := ite_f c2 hf
        exact frc_w_X7_readPerson_117 t0 hf
theorem frc_X7_readPerson {x0 : Int} {μ μ' : Mem} {r : Int} (t0 : isK x0 7) (hf : f_X7_readPerson x0 μ = some (r, μ')) : FrC μ μ' := by
  unfold f_X7_readPerson at hf
  obtain ⟨g1, hf⟩ := gd_some hf
  obtain ⟨v2, e3, hf⟩ := nm_some hf
  rcases Decidable.em (nrm v2 < 0) with c4 | c4
  · have hf := ite_t c4 hf
    exact frc_w_X7_readPerson_18 t0 hf
  · have hf := ite_f c4 hf
    rcases Decidable.em (nrm v2 < nrm 8) with c5 | c5
    · have hf := ite_t c5 hf
      obtain ⟨r7, μ6, e8, hf⟩ := bn_some hf
      have fq6 := (frc_X9_advance (ow_7_0 t0) e8)
      obtain ⟨r10, μ9, e11, hf⟩ := bn_some hf
      have fq7 := fq6.trans (frc_X7_take t0 e11)
      rcases Decidable.em (nrm r10 = 0) with c12 | c12
      · have hf := ite_t c12 hf
        cases hf; exact fq7
      · have hf := ite_f c12 hf
        obtain ⟨r14, μ13, e15, hf⟩ := bn_some hf
        have fq8 := fq7.trans (frc_X7_takeNumber t0 e15)
        rcases Decidable.em (nrm r14 = 0) with c16 | c16
        · have hf := ite_t c16 hf
          cases hf; exact fq8
        · have hf := ite_f c16 hf
          obtain ⟨g17, hf⟩ := gd_some hf
          obtain ⟨g20, hf⟩ := gd_some hf
          obtain ⟨μ18, e19, hf⟩ := nm_some hf
          have fq9 := fq8.trans (frc_ms (by have := bd_3 g17; omega) e19)
          exact fq9.trans (frc_w_X7_readPerson_69 FU _ _ _ _ _ _ t0 hf)
    · have hf := ite_f c5 hf
      exact frc_w_X7_readPerson_18 t0 hf
theorem frc_X7_readRain {x0 : Int} {μ μ' : Mem} {r : Int} (t0 : isK x0 7) (hf : f_X7_readRain x0 μ = some (r, μ')) : FrC μ μ' := by
  unfold f_X7_readRain at hf
  obtain ⟨r2, μ1, e3, hf⟩ := bn_some hf
  have fq1 := (frc_X9_advance (ow_7_0 t0) e3)
  obtain ⟨r5, μ4, e6, hf⟩ := bn_some hf
  have fq2 := fq1.trans (frc_X7_takeNumber t0 e6)
  rcases Decidable.em (nrm r5 = 0) with c7 | c7
  · have hf := ite_t c7 hf
    cases hf; exact fq2
  · have hf := ite_f c7 hf
    obtain ⟨g8, hf⟩ := gd_some hf
    obtain ⟨μ9, e10, hf⟩ := nm_some hf
    have fq3 := fq2.trans (frc_ms (by have := bd_3 g8; omega) e10)
    obtain ⟨r12, μ11, e13, hf⟩ := bn_some hf
    have fq4 := fq3.trans (frc_X7_takeLineEnd t0 e13)
    obtain ⟨g14, hf⟩ := gd_some hf
    cases hf; exact fq4
theorem frc_X7_addAtom {x0 x1 x2 : Int} {μ μ' : Mem} {r : Int} (t0 : isK x0 7) (hf : f_X7_addAtom x0 x1 x2 μ = some (r, μ')) : FrC μ μ' := by
  unfold f_X7_addAtom at hf
  obtain ⟨g1, hf⟩ := gd_some hf
  obtain ⟨r3, μ2, e4, hf⟩ := bn_some hf
  have fq1 := (frc_X4_addStep (ow_3_14 g1) e4)
  obtain ⟨r6, μ5, e7, hf⟩ := bn_some hf
  have fq2 := fq1.trans (frc_X9_advance (ow_7_0 t0) e7)
  cases hf; exact fq2
theorem frc_X7_takeOpening {x0 x1 : Int} {μ μ' : Mem} {r : Int} (t0 : isK x0 7) (hf : f_X7_takeOpening x0 x1 μ = some (r, μ')) : FrC μ μ' := by
  unfold f_X7_takeOpening at hf
  rcases Decidable.em (nrm x1 < nrm 6) with c1 | c1
  · have hf := ite_t c1 hf
    obtain ⟨r3, μ2, e4, hf⟩ := bn_some hf
    have fq1 := (frc_X9_advance (ow_7_0 t0) e4)
    cases hf; exact fq1
  · have hf := ite_f c1 hf
    obtain ⟨r6, μ5, e7, hf⟩ := bn_some hf
    have fq2 := (frc_X7_refuse t0 e7)
    obtain ⟨g8, hf⟩ := gd_some hf
    cases hf; exact fq2
theorem frc_w_X7_readAtom_0 (rec : Nat → Int → Int → Mem → Option (Int × Mem)) (h_0 : ∀ (x0 x1 : Int) (μ μ' : Mem) (r : Int), isK x0 7 → rec 0 x0 x1 μ = some (r, μ') → FrC μ μ') (h_1 : ∀ (x0 x1 : Int) (μ μ' : Mem) (r : Int), isK x0 7 → rec 1 x0 x1 μ = some (r, μ') → FrC μ μ') (h_2 : ∀ (x0 x1 : Int) (μ μ' : Mem) (r : Int), isK x0 7 → rec 2 x0 x1 μ = some (r, μ') → FrC μ μ') (h_3 : ∀ (x0 x1 : Int) (μ μ' : Mem) (r : Int), isK x0 7 → rec 3 x0 x1 μ = some (r, μ') → FrC μ μ') (h_4 : ∀ (x0 x1 : Int) (μ μ' : Mem) (r : Int), isK x0 7 → rec 4 x0 x1 μ = some (r, μ') → FrC μ μ') (h_5 : ∀ (x0 x1 : Int) (μ μ' : Mem) (r : Int), isK x0 7 → rec 5 x0 x1 μ = some (r, μ') → FrC μ μ') (h_6 : ∀ (x0 x1 : Int) (μ μ' : Mem) (r : Int), isK x0 7 → rec 6 x0 x1 μ = some (r, μ') → FrC μ μ') {x0 x1 : Int} {μ μ' : Mem} {r : Int} (t0 : isK x0 7) (hf : b_X7_readAtom rec x0 x1 μ = some (r, μ')) : FrC μ μ' := by
  unfold b_X7_readAtom at hf
  rcases Decidable.em (nrm (μ (x0 + 1) 0) = 2) with c1 | c1
  · have hf := ite_t c1 hf
    obtain ⟨r3, μ2, e4, hf⟩ := bn_some hf
    have fq1 := (frc_X7_addAtom t0 e4)
    obtain ⟨g5, hf⟩ := gd_some hf
    cases hf; exact fq1
  have hf := ite_f c1 hf
  rcases Decidable.em (nrm (μ (x0 + 1) 0) = 40) with c6 | c6
  · have hf := ite_t c6 hf
    obtain ⟨r8, μ7, e9, hf⟩ := bn_some hf
    have fq2 := (frc_X7_takeOpening t0 e9)
    rcases Decidable.em (nrm r8 = 0) with c10 | c10
    · have hf := ite_t c10 hf
      cases hf; exact fq2
    · have hf := ite_f c10 hf
      obtain ⟨r12, μ11, e13, hf⟩ := bn_some hf
      have fq3 := fq2.trans (h_3 _ _ _ _ _ t0 e13)
      rcases Decidable.em (nrm r12 = 0) with c14 | c14
      · have hf := ite_t c14 hf
        cases hf; exact fq3
      · have hf := ite_f c14 hf
        obtain ⟨r16, μ15, e17, hf⟩ := bn_some hf
        have fq4 := fq3.trans (frc_X7_take t0 e17)
        rcases Decidable.em (nrm r16 = 0) with c18 | c18
        · have hf := ite_t c18 hf
          cases hf; exact fq4
        · have hf := ite_f c18 hf
          cases hf; exact fq4
  have hf := ite_f c6 hf
  rcases Decidable.em (nrm (μ (x0 + 1) 0) = 130) with c19 | c19
  · have hf := ite_t c19 hf
    obtain ⟨r21, μ20, e22, hf⟩ := bn_some hf
    have fq5 := (frc_X7_addAtom t0 e22)
    obtain ⟨g23, hf⟩ := gd_some hf
    cases hf; exact fq5
  have hf := ite_f c19 hf
  rcases Decidable.em (nrm (μ (x0 + 1) 0) = 131) with c24 | c24
  · have hf := ite_t c24 hf
    obtain ⟨r26, μ25, e27, hf⟩ := bn_some hf
    have fq6 := (frc_X7_addAtom t0 e27)
    obtain ⟨g28, hf⟩ := gd_some hf
    cases hf; exact fq6
  have hf := ite_f c24 hf
  rcases Decidable.em (nrm (μ (x0 + 1) 0) = 132) with c29 | c29
  · have hf := ite_t c29 hf
    obtain ⟨r31, μ30, e32, hf⟩ := bn_some hf
    have fq7 := (frc_X7_addAtom t0 e32)
    obtain ⟨g33, hf⟩ := gd_some hf
    cases hf; exact fq7
  have hf := ite_f c29 hf
  rcases Decidable.em (nrm (μ (x0 + 1) 0) = 136) with c34 | c34
  · have hf := ite_t c34 hf
    obtain ⟨r36, μ35, e37, hf⟩ := bn_some hf
    have fq8 := (frc_X7_addAtom t0 e37)
    obtain ⟨g38, hf⟩ := gd_some hf
    cases hf; exact fq8
  have hf := ite_f c34 hf
  rcases Decidable.em (nrm (μ (x0 + 1) 0) = 139) with c39 | c39
  · have hf := ite_t c39 hf
    rcases Decidable.em (nrm (μ x0 5) = 0) with c40 | c40
    · have hf := ite_t c40 hf
      obtain ⟨r42, μ41, e43, hf⟩ := bn_some hf
      have fq9 := (frc_X7_refuse t0 e43)
      obtain ⟨g44, hf⟩ := gd_some hf
      cases hf; exact fq9
    · have hf := ite_f c40 hf
      obtain ⟨r46, μ45, e47, hf⟩ := bn_some hf
      have fq10 := (frc_X7_addAtom t0 e47)
      obtain ⟨g48, hf⟩ := gd_some hf
      cases hf; exact fq10
  have hf := ite_f c39 hf
  rcases Decidable.em (nrm (μ (x0 + 1) 0) = 140) with c49 | c49
  · have hf := ite_t c49 hf
    obtain ⟨r51, μ50, e52, hf⟩ := bn_some hf
    have fq11 := (frc_X7_addAtom t0 e52)
    obtain ⟨g53, hf⟩ := gd_some hf
    cases hf; exact fq11
  have hf := ite_f c49 hf
  rcases Decidable.em (nrm (μ (x0 + 1) 0) = 143) with c54 | c54
  · have hf := ite_t c54 hf
    obtain ⟨r56, μ55, e57, hf⟩ := bn_some hf
    have fq12 := (h_2 _ _ _ _ _ t0 e57)
    obtain ⟨g58, hf⟩ := gd_some hf
    cases hf; exact fq12
  have hf := ite_f c54 hf
  obtain ⟨r60, μ59, e61, hf⟩ := bn_some hf
  have fq13 := (frc_X7_refuse t0 e61)
  obtain ⟨g62, hf⟩ := gd_some hf
  cases hf; exact fq13
theorem frc_w_X7_readBoth_8 (rec : Nat → Int → Int → Mem → Option (Int × Mem)) (h_0 : ∀ (x0 x1 : Int) (μ μ' : Mem) (r : Int), isK x0 7 → rec 0 x0 x1 μ = some (r, μ') → FrC μ μ') (h_1 : ∀ (x0 x1 : Int) (μ μ' : Mem) (r : Int), isK x0 7 → rec 1 x0 x1 μ = some (r, μ') → FrC μ μ') (h_2 : ∀ (x0 x1 : Int) (μ μ' : Mem) (r : Int), isK x0 7 → rec 2 x0 x1 μ = some (r, μ') → FrC μ μ') (h_3 : ∀ (x0 x1 : Int) (μ μ' : Mem) (r : Int), isK x0 7 → rec 3 x0 x1 μ = some (r, μ') → FrC μ μ') (h_4 : ∀ (x0 x1 : Int) (μ μ' : Mem) (r : Int), isK x0 7 → rec 4 x0 x1 μ = some (r, μ') → FrC μ μ') (h_5 : ∀ (x0 x1 : Int) (μ μ' : Mem) (r : Int), isK x0 7 → rec 5 x0 x1 μ = some (r, μ') → FrC μ μ') (h_6 : ∀ (x0 x1 : Int) (μ μ' : Mem) (r : Int), isK x0 7 → rec 6 x0 x1 μ = some (r, μ') → FrC μ μ') : ∀ (n : Nat) (x0 x1 x2 x3 : Int) (μ μ' : Mem) (r : Int), isK x0 7 → f_X7_readBoth_w8 rec n x0 x1 x2 x3 μ = some (r, μ') → FrC μ μ' := by
  intro n
  induction n with
  | zero => intro x0 x1 x2 x3 μ μ' r t0 hf; cases hf
  | succ n ih =>
    intro x0 x1 x2 x3 μ μ' r t0 hf
    rw [f_X7_readBoth_w8.eq_2] at hf
    rcases Decidable.em (nrm 900 ≤ nrm x3) with c1 | c1
    · have hf := ite_t c1 hf
      obtain ⟨g2, hf⟩ := gd_some hf
      cases hf; exact frc_rf
    · have hf := ite_f c1 hf
      rcases Decidable.em (nrm x2 = 0) with c3 | c3
      · have hf := ite_t c3 hf
        obtain ⟨g4, hf⟩ := gd_some hf
        cases hf; exact frc_rf
      · have hf := ite_f c3 hf
        rcases Decidable.em (nrm (μ (x0 + 1) 0) = nrm 148) with c5 | c5
        · have hf := ite_t c5 hf
          obtain ⟨r8, μ7, e9, hf⟩ := bn_some hf
          have fq1 := (frc_X9_advance (ow_7_0 t0) e9)
          obtain ⟨r11, μ10, e12, hf⟩ := bn_some hf
          have fq2 := fq1.trans (h_6 _ _ _ _ _ t0 e12)
          obtain ⟨g13, hf⟩ := gd_some hf
          obtain ⟨r15, μ14, e16, hf⟩ := bn_some hf
          have fq3 := fq2.trans (frc_X4_addStep (ow_3_14 g13) e16)
          exact fq3.trans (ih _ _ _ _ _ _ _ t0 hf)
        · have hf := ite_f c5 hf
          obtain ⟨g6, hf⟩ := gd_some hf
          cases hf; exact frc_rf
theorem frc_w_X7_readBoth_0 (rec : Nat → Int → Int → Mem → Option (Int × Mem)) (h_0 : ∀ (x0 x1 : Int) (μ μ' : Mem) (r : Int), isK x0 7 → rec 0 x0 x1 μ = some (r, μ') → FrC μ μ') (h_1 : ∀ (x0 x1 : Int) (μ μ' : Mem) (r : Int), isK x0 7 → rec 1 x0 x1 μ = some (r, μ') → FrC μ μ') (h_2 : ∀ (x0 x1 : Int) (μ μ' : Mem) (r : Int), isK x0 7 → rec 2 x0 x1 μ = some (r, μ') → FrC μ μ') (h_3 : ∀ (x0 x1 : Int) (μ μ' : Mem) (r : Int), isK x0 7 → rec 3 x0 x1 μ = some (r, μ') → FrC μ μ') (h_4 : ∀ (x0 x1 : Int) (μ μ' : Mem) (r : Int), isK x0 7 → rec 4 x0 x1 μ = some (r, μ') → FrC μ μ') (h_5 : ∀ (x0 x1 : Int) (μ μ' : Mem) (r : Int), isK x0 7 → rec 5 x0 x1 μ = some (r, μ') → FrC μ μ') (h_6 : ∀ (x0 x1 : Int) (μ μ' : Mem) (r : Int), isK x0 7 → rec 6 x0 x1 μ = some (r, μ') → FrC μ μ') {x0 x1 : Int} {μ μ' : Mem} {r : Int} (t0 : isK x0 7) (hf : b_X7_readBoth rec x0 x1 μ = some (r, μ')) : FrC μ μ' := by
  unfold b_X7_readBoth at hf
  obtain ⟨r2, μ1, e3, hf⟩ := bn_some hf
  have fq4 := (h_6 _ _ _ _ _ t0 e3)
  exact fq4.trans (frc_w_X7_readBoth_8 _ h_0 h_1 h_2 h_3 h_4 h_5 h_6 FU _ _ _ _ _ _ _ t0 hf)
theorem frc_w_X7_readIf_73 (rec : Nat → Int → Int → Mem → Option (Int × Mem)) (h_0 : ∀ (x0 x1 : Int) (μ μ' : Mem) (r : Int), isK x0 7 → rec 0 x0 x1 μ = some (r, μ') → FrC μ μ') (h_1 : ∀ (x0 x1 : Int) (μ μ' : Mem) (r : Int), isK x0 7 → rec 1 x0 x1 μ = some (r, μ') → FrC μ μ') (h_2 : ∀ (x0 x1 : Int) (μ μ' : Mem) (r : Int), isK x0 7 → rec 2 x0 x1 μ = some (r, μ') → FrC μ μ') (h_3 : ∀ (x0 x1 : Int) (μ μ' : Mem) (r : Int), isK x0 7 → rec 3 x0 x1 μ = some (r, μ') → FrC μ μ') (h_4 : ∀ (x0 x1 : Int) (μ μ' : Mem) (r : Int), isK x0 7 → rec 4 x0 x1 μ = some (r, μ') → FrC μ μ') (h_5 : ∀ (x0 x1 : Int) (μ μ' : Mem) (r : Int), isK x0 7 → rec 5 x0 x1 μ = some (r, μ') → FrC μ μ') (h_6 : ∀ (x0 x1 : Int) (μ μ' : Mem) (r : Int), isK x0 7 → rec 6 x0 x1 μ = some (r, μ') → FrC μ μ') {x0 s0 : Int} {μ μ' : Mem} {r : Int} (t0 : isK x0 7) (hf : f_X7_readIf_j73 rec x0 s0 μ = some (r, μ')) : FrC μ μ' := by
  unfold f_X7_readIf_j73 at hf
  obtain ⟨g1, hf⟩ := gd_some hf
  obtain ⟨r3, μ2, e4, hf⟩ := bn_some hf
  have fq1 := (frc_X4_addStep (ow_3_14 g1) e4)
  obtain ⟨g5, hf⟩ := gd_some hf
  cases hf; exact fq1
theorem frc_w_X7_readIf_72 (rec : Nat → Int → Int → Mem → Option (Int × Mem)) (h_0 : ∀ (x0 x1 : Int) (μ μ' : Mem) (r : Int), isK x0 7 → rec 0 x0 x1 μ = some (r, μ') → FrC μ μ') (h_1 : ∀ (x0 x1 : Int) (μ μ' : Mem) (r : Int), isK x0 7 → rec 1 x0 x1 μ = some (r, μ') → FrC μ μ') (h_2 : ∀ (x0 x1 : Int) (μ μ' : Mem) (r : Int), isK x0 7 → rec 2 x0 x1 μ = some (r, μ') → FrC μ μ') (h_3 : ∀ (x0 x1 : Int) (μ μ' : Mem) (r : Int), isK x0 7 → rec 3 x0 x1 μ = some (r, μ') → FrC μ μ') (h_4 : ∀ (x0 x1 : Int) (μ μ' : Mem) (r : Int), isK x0 7 → rec 4 x0 x1 μ = some (r, μ') → FrC μ μ') (h_5 : ∀ (x0 x1 : Int) (μ μ' : Mem) (r : Int), isK x0 7 → rec 5 x0 x1 μ = some (r, μ') → FrC μ μ') (h_6 : ∀ (x0 x1 : Int) (μ μ' : Mem) (r : Int), isK x0 7 → rec 6 x0 x1 μ = some (r, μ') → FrC μ μ') {x0 : Int} {μ μ' : Mem} {r : Int} (t0 : isK x0 7) (hf : f_X7_readIf_j72 rec x0 μ = some (r, μ')) : FrC μ μ' := by
  unfold f_X7_readIf_j72 at hf
  exact frc_w_X7_readIf_73 _ h_0 h_1 h_2 h_3 h_4 h_5 h_6 t0 hf
theorem frc_w_X7_readIf_0 (rec : Nat → Int → Int → Mem → Option (Int × Mem)) (h_0 : ∀ (x0 x1 : Int) (μ μ' : Mem) (r : Int), isK x0 7 → rec 0 x0 x1 μ = some (r, μ') → FrC μ μ') (h_1 : ∀ (x0 x1 : Int) (μ μ' : Mem) (r : Int), isK x0 7 → rec 1 x0 x1 μ = some (r, μ') → FrC μ μ') (h_2 : ∀ (x0 x1 : Int) (μ μ' : Mem) (r : Int), isK x0 7 → rec 2 x0 x1 μ = some (r, μ') → FrC μ μ') (h_3 : ∀ (x0 x1 : Int) (μ μ' : Mem) (r : Int), isK x0 7 → rec 3 x0 x1 μ = some (r, μ') → FrC μ μ') (h_4 : ∀ (x0 x1 : Int) (μ μ' : Mem) (r : Int), isK x0 7 → rec 4 x0 x1 μ = some (r, μ') → FrC μ μ') (h_5 : ∀ (x0 x1 : Int) (μ μ' : Mem) (r : Int), isK x0 7 → rec 5 x0 x1 μ = some (r, μ') → FrC μ μ') (h_6 : ∀ (x0 x1 : Int) (μ μ' : Mem) (r : Int), isK x0 7 → rec 6 x0 x1 μ = some (r, μ') → FrC μ μ') {x0 x1 : Int} {μ μ' : Mem} {r : Int} (t0 : isK x0 7) (hf : b_X7_readIf rec x0 x1 μ = some (r, μ')) : FrC μ μ' := by
  unfold b_X7_readIf at hf
  obtain ⟨r2, μ1, e3, hf⟩ := bn_some hf
  have fq2 := (frc_X7_takeOpening t0 e3)
  rcases Decidable.em (nrm r2 = 0) with c4 | c4
  · have hf := ite_t c4 hf
    exact fq2.trans (frc_w_X7_readIf_72 _ h_0 h_1 h_2 h_3 h_4 h_5 h_6 t0 hf)
  · have hf := ite_f c4 hf
    obtain ⟨r6, μ5, e7, hf⟩ := bn_some hf
    have fq3 := fq2.trans (h_5 _ _ _ _ _ t0 e7)
    rcases Decidable.em (nrm r6 = 0) with c8 | c8
    · have hf := ite_t c8 hf
      exact fq3.trans (frc_w_X7_readIf_72 _ h_0 h_1 h_2 h_3 h_4 h_5 h_6 t0 hf)
    · have hf := ite_f c8 hf
      obtain ⟨r10, μ9, e11, hf⟩ := bn_some hf
      have fq4 := fq3.trans (frc_X7_take t0 e11)
      rcases Decidable.em (nrm r10 = 0) with c12 | c12
      · have hf := ite_t c12 hf
        exact fq4.trans (frc_w_X7_readIf_72 _ h_0 h_1 h_2 h_3 h_4 h_5 h_6 t0 hf)
      · have hf := ite_f c12 hf
        obtain ⟨r14, μ13, e15, hf⟩ := bn_some hf
        have fq5 := fq4.trans (h_3 _ _ _ _ _ t0 e15)
        rcases Decidable.em (nrm r14 = 0) with c16 | c16
        · have hf := ite_t c16 hf
          exact fq5.trans (frc_w_X7_readIf_72 _ h_0 h_1 h_2 h_3 h_4 h_5 h_6 t0 hf)
        · have hf := ite_f c16 hf
          obtain ⟨r18, μ17, e19, hf⟩ := bn_some hf
          have fq6 := fq5.trans (frc_X7_take t0 e19)
          rcases Decidable.em (nrm r18 = 0) with c20 | c20
          · have hf := ite_t c20 hf
            exact fq6.trans (frc_w_X7_readIf_72 _ h_0 h_1 h_2 h_3 h_4 h_5 h_6 t0 hf)
          · have hf := ite_f c20 hf
            obtain ⟨r22, μ21, e23, hf⟩ := bn_some hf
            have fq7 := fq6.trans (h_3 _ _ _ _ _ t0 e23)
            rcases Decidable.em (nrm r22 = 0) with c24 | c24
            · have hf := ite_t c24 hf
              exact fq7.trans (frc_w_X7_readIf_72 _ h_0 h_1 h_2 h_3 h_4 h_5 h_6 t0 hf)
            · have hf := ite_f c24 hf
              obtain ⟨r26, μ25, e27, hf⟩ := bn_some hf
              have fq8 := fq7.trans (frc_X7_take t0 e27)
              rcases Decidable.em (nrm r26 = 0) with c28 | c28
              · have hf := ite_t c28 hf
                exact fq8.trans (frc_w_X7_readIf_72 _ h_0 h_1 h_2 h_3 h_4 h_5 h_6 t0 hf)
              · have hf := ite_f c28 hf
                exact fq8.trans (frc_w_X7_readIf_73 _ h_0 h_1 h_2 h_3 h_4 h_5 h_6 t0 hf)
theorem frc_w_X7_readSum_84 (rec : Nat → Int → Int → Mem → Option (Int × Mem)) (h_0 : ∀ (x0 x1 : Int) (μ μ' : Mem) (r : Int), isK x0 7 → rec 0 x0 x1 μ = some (r, μ') → FrC μ μ') (h_1 : ∀ (x0 x1 : Int) (μ μ' : Mem) (r : Int), isK x0 7 → rec 1 x0 x1 μ = some (r, μ') → FrC μ μ') (h_2 : ∀ (x0 x1 : Int) (μ μ' : Mem) (r : Int), isK x0 7 → rec 2 x0 x1 μ = some (r, μ') → FrC μ μ') (h_3 : ∀ (x0 x1 : Int) (μ μ' : Mem) (r : Int), isK x0 7 → rec 3 x0 x1 μ = some (r, μ') → FrC μ μ') (h_4 : ∀ (x0 x1 : Int) (μ μ' : Mem) (r : Int), isK x0 7 → rec 4 x0 x1 μ = some (r, μ') → FrC μ μ') (h_5 : ∀ (x0 x1 : Int) (μ μ' : Mem) (r : Int), isK x0 7 → rec 5 x0 x1 μ = some (r, μ') → FrC μ μ') (h_6 : ∀ (x0 x1 : Int) (μ μ' : Mem) (r : Int), isK x0 7 → rec 6 x0 x1 μ = some (r, μ') → FrC μ μ') (k8 : Int → Int → Int → Int → Mem → Option (Int × Mem)) (h8 : ∀ (x0 x1 x2 x3 : Int) (μ μ' : Mem) (r : Int), isK x0 7 → k8 x0 x1 x2 x3 μ = some (r, μ') → FrC μ μ') {x0 x1 x2 x3 s0 s1 : Int} {μ μ' : Mem} {r : Int} (hb_s0 : s0 < 111) (t0 : isK x0 7) (hf : f_X7_readSum_j84 rec k8 x0 x1 x2 x3 s0 s1 μ = some (r, μ')) : FrC μ μ' := by
  unfold f_X7_readSum_j84 at hf
  obtain ⟨g1, hf⟩ := gd_some hf
  obtain ⟨r3, μ2, e4, hf⟩ := bn_some hf
  have fq1 := (frc_X4_addStep g1 e4)
  exact fq1.trans (h8 _ _ _ _ _ _ _ t0 hf)
theorem frc_w_X7_readSum_43 (rec : Nat → Int → Int → Mem → Option (Int × Mem)) (h_0 : ∀ (x0 x1 : Int) (μ μ' : Mem) (r : Int), isK x0 7 → rec 0 x0 x1 μ = some (r, μ') → FrC μ μ') (h_1 : ∀ (x0 x1 : Int) (μ μ' : Mem) (r : Int), isK x0 7 → rec 1 x0 x1 μ = some (r, μ') → FrC μ μ') (h_2 : ∀ (x0 x1 : Int) (μ μ' : Mem) (r : Int), isK x0 7 → rec 2 x0 x1 μ = some (r, μ') → FrC μ μ') (h_3 : ∀ (x0 x1 : Int) (μ μ' : Mem) (r : Int), isK x0 7 → rec 3 x0 x1 μ = some (r, μ') → FrC μ μ') (h_4 : ∀ (x0 x1 : Int) (μ μ' : Mem) (r : Int), isK x0 7 → rec 4 x0 x1 μ = some (r, μ') → FrC μ μ') (h_5 : ∀ (x0 x1 : Int) (μ μ' : Mem) (r : Int), isK x0 7 → rec 5 x0 x1 μ = some (r, μ') → FrC μ μ') (h_6 : ∀ (x0 x1 : Int) (μ μ' : Mem) (r : Int), isK x0 7 → rec 6 x0 x1 μ = some (r, μ') → FrC μ μ') (k8 : Int → Int → Int → Int → Mem → Option (Int × Mem)) (h8 : ∀ (x0 x1 x2 x3 : Int) (μ μ' : Mem) (r : Int), isK x0 7 → k8 x0 x1 x2 x3 μ = some (r, μ') → FrC μ μ') {x0 x1 x3 : Int} {μ μ' : Mem} {r : Int} (t0 : isK x0 7) (hf : f_X7_readSum_j43 rec k8 x0 x1 x3 μ = some (r, μ')) : FrC μ μ' := by
  unfold f_X7_readSum_j43 at hf
  obtain ⟨v1, e2, hf⟩ := nm_some hf
  obtain ⟨r4, μ3, e5, hf⟩ := bn_some hf
  have fq2 := (frc_X9_advance (ow_7_0 t0) e5)
  obtain ⟨r7, μ6, e8, hf⟩ := bn_some hf
  have fq3 := fq2.trans (h_4 _ _ _ _ _ t0 e8)
  obtain ⟨g9, hf⟩ := gd_some hf
  rcases Decidable.em (nrm v1 = nrm 43) with c10 | c10
  · have hf := ite_t c10 hf
    exact fq3.trans (frc_w_X7_readSum_84 _ h_0 h_1 h_2 h_3 h_4 h_5 h_6 _ h8 (by have := bd_3 g9; omega) t0 hf)
  · have hf := ite_f c10 hf
    exact fq3.trans (frc_w_X7_readSum_84 _ h_0 h_1 h_2 h_3 h_4 h_5 h_6 _ h8 (by have := bd_3 g9; omega) t0 hf)
theorem frc_w_X7_readSum_8 (rec : Nat → Int → Int → Mem → Option (Int × Mem)) (h_0 : ∀ (x0 x1 : Int) (μ μ' : Mem) (r : Int), isK x0 7 → rec 0 x0 x1 μ = some (r, μ') → FrC μ μ') (h_1 : ∀ (x0 x1 : Int) (μ μ' : Mem) (r : Int), isK x0 7 → rec 1 x0 x1 μ = some (r, μ') → FrC μ μ') (h_2 : ∀ (x0 x1 : Int) (μ μ' : Mem) (r : Int), isK x0 7 → rec 2 x0 x1 μ = some (r, μ') → FrC μ μ') (h_3 : ∀ (x0 x1 : Int) (μ μ' : Mem) (r : Int), isK x0 7 → rec 3 x0 x1 μ = some (r, μ') → FrC μ μ') (h_4 : ∀ (x0 x1 : Int) (μ μ' : Mem) (r : Int), isK x0 7 → rec 4 x0 x1 μ = some (r, μ') → FrC μ μ') (h_5 : ∀ (x0 x1 : Int) (μ μ' : Mem) (r : Int), isK x0 7 → rec 5 x0 x1 μ = some (r, μ') → FrC μ μ') (h_6 : ∀ (x0 x1 : Int) (μ μ' : Mem) (r : Int), isK x0 7 → rec 6 x0 x1 μ = some (r, μ') → FrC μ μ') : ∀ (n : Nat) (x0 x1 x2 x3 : Int) (μ μ' : Mem) (r : Int), isK x0 7 → f_X7_readSum_w8 rec n x0 x1 x2 x3 μ = some (r, μ') → FrC μ μ' := by
  intro n
  induction n with
  | zero => intro x0 x1 x2 x3 μ μ' r t0 hf; cases hf
  | succ n ih =>
    intro x0 x1 x2 x3 μ μ' r t0 hf
    rw [f_X7_readSum_w8.eq_2] at hf
    rcases Decidable.em (nrm 900 ≤ nrm x3) with c1 | c1
    · have hf := ite_t c1 hf
      obtain ⟨g2, hf⟩ := gd_some hf
      cases hf; exact frc_rf
    · have hf := ite_f c1 hf
      rcases Decidable.em (nrm x2 = 0) with c3 | c3
      · have hf := ite_t c3 hf
        obtain ⟨g4, hf⟩ := gd_some hf
        cases hf; exact frc_rf
      · have hf := ite_f c3 hf
        rcases Decidable.em (nrm (μ (x0 + 1) 0) = nrm 43) with c5 | c5
        · have hf := ite_t c5 hf
          exact frc_w_X7_readSum_43 _ h_0 h_1 h_2 h_3 h_4 h_5 h_6 _ ih t0 hf
        · have hf := ite_f c5 hf
          rcases Decidable.em (nrm (μ (x0 + 1) 0) = nrm 45) with c6 | c6
          · have hf := ite_t c6 hf
            exact frc_w_X7_readSum_43 _ h_0 h_1 h_2 h_3 h_4 h_5 h_6 _ ih t0 hf
          · have hf := ite_f c6 hf
            obtain ⟨g7, hf⟩ := gd_some hf
            cases hf; exact frc_rf
theorem frc_w_X7_readSum_0 (rec : Nat → Int → Int → Mem → Option (Int × Mem)) (h_0 : ∀ (x0 x1 : Int) (μ μ' : Mem) (r : Int), isK x0 7 → rec 0 x0 x1 μ = some (r, μ') → FrC μ μ') (h_1 : ∀ (x0 x1 : Int) (μ μ' : Mem) (r : Int), isK x0 7 → rec 1 x0 x1 μ = some (r, μ') → FrC μ μ') (h_2 : ∀ (x0 x1 : Int) (μ μ' : Mem) (r : Int), isK x0 7 → rec 2 x0 x1 μ = some (r, μ') → FrC μ μ') (h_3 : ∀ (x0 x1 : Int) (μ μ' : Mem) (r : Int), isK x0 7 → rec 3 x0 x1 μ = some (r, μ') → FrC μ μ') (h_4 : ∀ (x0 x1 : Int) (μ μ' : Mem) (r : Int), isK x0 7 → rec 4 x0 x1 μ = some (r, μ') → FrC μ μ') (h_5 : ∀ (x0 x1 : Int) (μ μ' : Mem) (r : Int), isK x0 7 → rec 5 x0 x1 μ = some (r, μ') → FrC μ μ') (h_6 : ∀ (x0 x1 : Int) (μ μ' : Mem) (r : Int), isK x0 7 → rec 6 x0 x1 μ = some (r, μ') → FrC μ μ') {x0 x1 : Int} {μ μ' : Mem} {r : Int} (t0 : isK x0 7) (hf : b_X7_readSum rec x0 x1 μ = some (r, μ')) : FrC μ μ' := by
  unfold b_X7_readSum at hf
  obtain ⟨r2, μ1, e3, hf⟩ := bn_some hf
  have fq4 := (h_4 _ _ _ _ _ t0 e3)
  exact fq4.trans (frc_w_X7_readSum_8 _ h_0 h_1 h_2 h_3 h_4 h_5 h_6 FU _ _ _ _ _ _ _ t0 hf)
theorem frc_w_X7_readTerm_8 (rec : Nat → Int → Int → Mem → Option (Int × Mem)) (h_0 : ∀ (x0 x1 : Int) (μ μ' : Mem) (r : Int), isK x0 7 → rec 0 x0 x1 μ = some (r, μ') → FrC μ μ') (h_1 : ∀ (x0 x1 : Int) (μ μ' : Mem) (r : Int), isK x0 7 → rec 1 x0 x1 μ = some (r, μ') → FrC μ μ') (h_2 : ∀ (x0 x1 : Int) (μ μ' : Mem) (r : Int), isK x0 7 → rec 2 x0 x1 μ = some (r, μ') → FrC μ μ') (h_3 : ∀ (x0 x1 : Int) (μ μ' : Mem) (r : Int), isK x0 7 → rec 3 x0 x1 μ = some (r, μ') → FrC μ μ') (h_4 : ∀ (x0 x1 : Int) (μ μ' : Mem) (r : Int), isK x0 7 → rec 4 x0 x1 μ = some (r, μ') → FrC μ μ') (h_5 : ∀ (x0 x1 : Int) (μ μ' : Mem) (r : Int), isK x0 7 → rec 5 x0 x1 μ = some (r, μ') → FrC μ μ') (h_6 : ∀ (x0 x1 : Int) (μ μ' : Mem) (r : Int), isK x0 7 → rec 6 x0 x1 μ = some (r, μ') → FrC μ μ') : ∀ (n : Nat) (x0 x1 x2 x3 : Int) (μ μ' : Mem) (r : Int), isK x0 7 → f_X7_readTerm_w8 rec n x0 x1 x2 x3 μ = some (r, μ') → FrC μ μ' := by
  intro n
  induction n with
  | zero => intro x0 x1 x2 x3 μ μ' r t0 hf; cases hf
  | succ n ih =>
    intro x0 x1 x2 x3 μ μ' r t0 hf
    rw [f_X7_readTerm_w8.eq_2] at hf
    rcases Decidable.em (nrm 900 ≤ nrm x3) with c1 | c1
    · have hf := ite_t c1 hf
      obtain ⟨g2, hf⟩ := gd_some hf
      cases hf; exact frc_rf
    · have hf := ite_f c1 hf
      rcases Decidable.em (nrm x2 = 0) with c3 | c3
      · have hf := ite_t c3 hf
        obtain ⟨g4, hf⟩ := gd_some hf
        cases hf; exact frc_rf
      · have hf := ite_f c3 hf
        rcases Decidable.em (nrm (μ (x0 + 1) 0) = nrm 42) with c5 | c5
        · have hf := ite_t c5 hf
          obtain ⟨r8, μ7, e9, hf⟩ := bn_some hf
          have fq1 := (frc_X9_advance (ow_7_0 t0) e9)
          obtain ⟨r11, μ10, e12, hf⟩ := bn_some hf
          have fq2 := fq1.trans (h_0 _ _ _ _ _ t0 e12)
          obtain ⟨g13, hf⟩ := gd_some hf
          obtain ⟨r15, μ14, e16, hf⟩ := bn_some hf
          have fq3 := fq2.trans (frc_X4_addStep (ow_3_14 g13) e16)
          exact fq3.trans (ih _ _ _ _ _ _ _ t0 hf)
        · have hf := ite_f c5 hf
          obtain ⟨g6, hf⟩ := gd_some hf
          cases hf; exact frc_rf
theorem frc_w_X7_readTerm_0 (rec : Nat → Int → Int → Mem → Option (Int × Mem)) (h_0 : ∀ (x0 x1 : Int) (μ μ' : Mem) (r : Int), isK x0 7 → rec 0 x0 x1 μ = some (r, μ') → FrC μ μ') (h_1 : ∀ (x0 x1 : Int) (μ μ' : Mem) (r : Int), isK x0 7 → rec 1 x0 x1 μ = some (r, μ') → FrC μ μ') (h_2 : ∀ (x0 x1 : Int) (μ μ' : Mem) (r : Int), isK x0 7 → rec 2 x0 x1 μ = some (r, μ') → FrC μ μ') (h_3 : ∀ (x0 x1 : Int) (μ μ' : Mem) (r : Int), isK x0 7 → rec 3 x0 x1 μ = some (r, μ') → FrC μ μ') (h_4 : ∀ (x0 x1 : Int) (μ μ' : Mem) (r : Int), isK x0 7 → rec 4 x0 x1 μ = some (r, μ') → FrC μ μ') (h_5 : ∀ (x0 x1 : Int) (μ μ' : Mem) (r : Int), isK x0 7 → rec 5 x0 x1 μ = some (r, μ') → FrC μ μ') (h_6 : ∀ (x0 x1 : Int) (μ μ' : Mem) (r : Int), isK x0 7 → rec 6 x0 x1 μ = some (r, μ') → FrC μ μ') {x0 x1 : Int} {μ μ' : Mem} {r : Int} (t0 : isK x0 7) (hf : b_X7_readTerm rec x0 x1 μ = some (r, μ')) : FrC μ μ' := by
  unfold b_X7_readTerm at hf
  obtain ⟨r2, μ1, e3, hf⟩ := bn_some hf
  have fq4 := (h_0 _ _ _ _ _ t0 e3)
  exact fq4.trans (frc_w_X7_readTerm_8 _ h_0 h_1 h_2 h_3 h_4 h_5 h_6 FU _ _ _ _ _ _ _ t0 hf)
theorem frc_w_X7_readTruth_8 (rec : Nat → Int → Int → Mem → Option (Int × Mem)) (h_0 : ∀ (x0 x1 : Int) (μ μ' : Mem) (r : Int), isK x0 7 → rec 0 x0 x1 μ = some (r, μ') → FrC μ μ') (h_1 : ∀ (x0 x1 : Int) (μ μ' : Mem) (r : Int), isK x0 7 → rec 1 x0 x1 μ = some (r, μ') → FrC μ μ') (h_2 : ∀ (x0 x1 : Int) (μ μ' : Mem) (r : Int), isK x0 7 → rec 2 x0 x1 μ = some (r, μ') → FrC μ μ') (h_3 : ∀ (x0 x1 : Int) (μ μ' : Mem) (r : Int), isK x0 7 → rec 3 x0 x1 μ = some (r, μ') → FrC μ μ') (h_4 : ∀ (x0 x1 : Int) (μ μ' : Mem) (r : Int), isK x0 7 → rec 4 x0 x1 μ = some (r, μ') → FrC μ μ') (h_5 : ∀ (x0 x1 : Int) (μ μ' : Mem) (r : Int), isK x0 7 → rec 5 x0 x1 μ = some (r, μ') → FrC μ μ') (h_6 : ∀ (x0 x1 : Int) (μ μ' : Mem) (r : Int), isK x0 7 → rec 6 x0 x1 μ = some (r, μ') → FrC μ μ') : ∀ (n : Nat) (x0 x1 x2 x3 : Int) (μ μ' : Mem) (r : Int), isK x0 7 → f_X7_readTruth_w8 rec n x0 x1 x2 x3 μ = some (r, μ') → FrC μ μ' := by
  intro n
  induction n with
  | zero => intro x0 x1 x2 x3 μ μ' r t0 hf; cases hf
  | succ n ih =>
    intro x0 x1 x2 x3 μ μ' r t0 hf
    rw [f_X7_readTruth_w8.eq_2] at hf
    rcases Decidable.em (nrm 900 ≤ nrm x3) with c1 | c1
    · have hf := ite_t c1 hf
      obtain ⟨g2, hf⟩ := gd_some hf
      cases hf; exact frc_rf
    · have hf := ite_f c1 hf
      rcases Decidable.em (nrm x2 = 0) with c3 | c3
      · have hf := ite_t c3 hf
        obtain ⟨g4, hf⟩ := gd_some hf
        cases hf; exact frc_rf
      · have hf := ite_f c3 hf
        rcases Decidable.em (nrm (μ (x0 + 1) 0) = nrm 149) with c5 | c5
        · have hf := ite_t c5 hf
          obtain ⟨r8, μ7, e9, hf⟩ := bn_some hf
          have fq1 := (frc_X9_advance (ow_7_0 t0) e9)
          obtain ⟨r11, μ10, e12, hf⟩ := bn_some hf
          have fq2 := fq1.trans (h_1 _ _ _ _ _ t0 e12)
          obtain ⟨g13, hf⟩ := gd_some hf
          obtain ⟨r15, μ14, e16, hf⟩ := bn_some hf
          have fq3 := fq2.trans (frc_X4_addStep (ow_3_14 g13) e16)
          exact fq3.trans (ih _ _ _ _ _ _ _ t0 hf)
        · have hf := ite_f c5 hf
          obtain ⟨g6, hf⟩ := gd_some hf
          cases hf; exact frc_rf
theorem frc_w_X7_readTruth_0 (rec : Nat → Int → Int → Mem → Option (Int × Mem)) (h_0 : ∀ (x0 x1 : Int) (μ μ' : Mem) (r : Int), isK x0 7 → rec 0 x0 x1 μ = some (r, μ') → FrC μ μ') (h_1 : ∀ (x0 x1 : Int) (μ μ' : Mem) (r : Int), isK x0 7 → rec 1 x0 x1 μ = some (r, μ') → FrC μ μ') (h_2 : ∀ (x0 x1 : Int) (μ μ' : Mem) (r : Int), isK x0 7 → rec 2 x0 x1 μ = some (r, μ') → FrC μ μ') (h_3 : ∀ (x0 x1 : Int) (μ μ' : Mem) (r : Int), isK x0 7 → rec 3 x0 x1 μ = some (r, μ') → FrC μ μ') (h_4 : ∀ (x0 x1 : Int) (μ μ' : Mem) (r : Int), isK x0 7 → rec 4 x0 x1 μ = some (r, μ') → FrC μ μ') (h_5 : ∀ (x0 x1 : Int) (μ μ' : Mem) (r : Int), isK x0 7 → rec 5 x0 x1 μ = some (r, μ') → FrC μ μ') (h_6 : ∀ (x0 x1 : Int) (μ μ' : Mem) (r : Int), isK x0 7 → rec 6 x0 x1 μ = some (r, μ') → FrC μ μ') {x0 x1 : Int} {μ μ' : Mem} {r : Int} (t0 : isK x0 7) (hf : b_X7_readTruth rec x0 x1 μ = some (r, μ')) : FrC μ μ' := by
  unfold b_X7_readTruth at hf
  obtain ⟨r2, μ1, e3, hf⟩ := bn_some hf
  have fq4 := (h_1 _ _ _ _ _ t0 e3)
  exact fq4.trans (frc_w_X7_readTruth_8 _ h_0 h_1 h_2 h_3 h_4 h_5 h_6 FU _ _ _ _ _ _ _ t0 hf)
theorem frc_w_X7_readUnit_182 (rec : Nat → Int → Int → Mem → Option (Int × Mem)) (h_0 : ∀ (x0 x1 : Int) (μ μ' : Mem) (r : Int), isK x0 7 → rec 0 x0 x1 μ = some (r, μ') → FrC μ μ') (h_1 : ∀ (x0 x1 : Int) (μ μ' : Mem) (r : Int), isK x0 7 → rec 1 x0 x1 μ = some (r, μ') → FrC μ μ') (h_2 : ∀ (x0 x1 : Int) (μ μ' : Mem) (r : Int), isK x0 7 → rec 2 x0 x1 μ = some (r, μ') → FrC μ μ') (h_3 : ∀ (x0 x1 : Int) (μ μ' : Mem) (r : Int), isK x0 7 → rec 3 x0 x1 μ = some (r, μ') → FrC μ μ') (h_4 : ∀ (x0 x1 : Int) (μ μ' : Mem) (r : Int), isK x0 7 → rec 4 x0 x1 μ = some (r, μ') → FrC μ μ') (h_5 : ∀ (x0 x1 : Int) (μ μ' : Mem) (r : Int), isK x0 7 → rec 5 x0 x1 μ = some (r, μ') → FrC μ μ') (h_6 : ∀ (x0 x1 : Int) (μ μ' : Mem) (r : Int), isK x0 7 → rec 6 x0 x1 μ = some (r, μ') → FrC μ μ') {x3 s0 s1 : Int} {μ μ' : Mem} {r : Int} (hb_s0 : s0 < 111) (hf : f_X7_readUnit_j182 rec x3 s0 s1 μ = some (r, μ')) : FrC μ μ' := by
  unfold f_X7_readUnit_j182 at hf
  obtain ⟨g1, hf⟩ := gd_some hf
  obtain ⟨r3, μ2, e4, hf⟩ := bn_some hf
  have fq1 := (frc_X4_addStep g1 e4)
  obtain ⟨g5, hf⟩ := gd_some hf
  cases hf; exact fq1
theorem frc_w_X7_readUnit_139 (rec : Nat → Int → Int → Mem → Option (Int × Mem)) (h_0 : ∀ (x0 x1 : Int) (μ μ' : Mem) (r : Int), isK x0 7 → rec 0 x0 x1 μ = some (r, μ') → FrC μ μ') (h_1 : ∀ (x0 x1 : Int) (μ μ' : Mem) (r : Int), isK x0 7 → rec 1 x0 x1 μ = some (r, μ') → FrC μ μ') (h_2 : ∀ (x0 x1 : Int) (μ μ' : Mem) (r : Int), isK x0 7 → rec 2 x0 x1 μ = some (r, μ') → FrC μ μ') (h_3 : ∀ (x0 x1 : Int) (μ μ' : Mem) (r : Int), isK x0 7 → rec 3 x0 x1 μ = some (r, μ') → FrC μ μ') (h_4 : ∀ (x0 x1 : Int) (μ μ' : Mem) (r : Int), isK x0 7 → rec 4 x0 x1 μ = some (r, μ') → FrC μ μ') (h_5 : ∀ (x0 x1 : Int) (μ μ' : Mem) (r : Int), isK x0 7 → rec 5 x0 x1 μ = some (r, μ') → FrC μ μ') (h_6 : ∀ (x0 x1 : Int) (μ μ' : Mem) (r : Int), isK x0 7 → rec 6 x0 x1 μ = some (r, μ') → FrC μ μ') {x0 x1 x2 : Int} {μ μ' : Mem} {r : Int} (t0 : isK x0 7) (hf : f_X7_readUnit_j139 rec x0 x1 x2 μ = some (r, μ')) : FrC μ μ' := by
  unfold f_X7_readUnit_j139 at hf
  obtain ⟨r2, μ1, e3, hf⟩ := bn_some hf
  have fq2 := (frc_X9_advance (ow_7_0 t0) e3)
  obtain ⟨r5, μ4, e6, hf⟩ := bn_some hf
  have fq3 := fq2.trans (h_3 _ _ _ _ _ t0 e6)
  obtain ⟨g7, hf⟩ := gd_some hf
  rcases Decidable.em (nrm x2 = nrm 61) with c8 | c8
  · have hf := ite_t c8 hf
    exact fq3.trans (frc_w_X7_readUnit_182 _ h_0 h_1 h_2 h_3 h_4 h_5 h_6 (by have := bd_3 g7; omega) hf)
  · have hf := ite_f c8 hf
    rcases Decidable.em (nrm x2 = nrm 60) with c9 | c9
    · have hf := ite_t c9 hf
      exact fq3.trans (frc_w_X7_readUnit_182 _ h_0 h_1 h_2 h_3 h_4 h_5 h_6 (by have := bd_3 g7; omega) hf)
    · have hf := ite_f c9 hf
      exact fq3.trans (frc_w_X7_readUnit_182 _ h_0 h_1 h_2 h_3 h_4 h_5 h_6 (by have := bd_3 g7; omega) hf)
theorem frc_w_X7_readUnit_36 (rec : Nat → Int → Int → Mem → Option (Int × Mem)) (h_0 : ∀ (x0 x1 : Int) (μ μ' : Mem) (r : Int), isK x0 7 → rec 0 x0 x1 μ = some (r, μ') → FrC μ μ') (h_1 : ∀ (x0 x1 : Int) (μ μ' : Mem) (r : Int), isK x0 7 → rec 1 x0 x1 μ = some (r, μ') → FrC μ μ') (h_2 : ∀ (x0 x1 : Int) (μ μ' : Mem) (r : Int), isK x0 7 → rec 2 x0 x1 μ = some (r, μ') → FrC μ μ') (h_3 : ∀ (x0 x1 : Int) (μ μ' : Mem) (r : Int), isK x0 7 → rec 3 x0 x1 μ = some (r, μ') → FrC μ μ') (h_4 : ∀ (x0 x1 : Int) (μ μ' : Mem) (r : Int), isK x0 7 → rec 4 x0 x1 μ = some (r, μ') → FrC μ μ') (h_5 : ∀ (x0 x1 : Int) (μ μ' : Mem) (r : Int), isK x0 7 → rec 5 x0 x1 μ = some (r, μ') → FrC μ μ') (h_6 : ∀ (x0 x1 : Int) (μ μ' : Mem) (r : Int), isK x0 7 → rec 6 x0 x1 μ = some (r, μ') → FrC μ μ') {x0 s0 : Int} {μ μ' : Mem} {r : Int} (t0 : isK x0 7) (hf : f_X7_readUnit_j36 rec x0 s0 μ = some (r, μ')) : FrC μ μ' := by
  unfold f_X7_readUnit_j36 at hf
  obtain ⟨g1, hf⟩ := gd_some hf
  obtain ⟨r3, μ2, e4, hf⟩ := bn_some hf
  have fq4 := (frc_X4_addStep (ow_3_14 g1) e4)
  obtain ⟨g5, hf⟩ := gd_some hf
  cases hf; exact fq4
theorem frc_w_X7_readUnit_35 (rec : Nat → Int → Int → Mem → Option (Int × Mem)) (h_0 : ∀ (x0 x1 : Int) (μ μ' : Mem) (r : Int), isK x0 7 → rec 0 x0 x1 μ = some (r, μ') → FrC μ μ') (h_1 : ∀ (x0 x1 : Int) (μ μ' : Mem) (r : Int), isK x0 7 → rec 1 x0 x1 μ = some (r, μ') → FrC μ μ') (h_2 : ∀ (x0 x1 : Int) (μ μ' : Mem) (r : Int), isK x0 7 → rec 2 x0 x1 μ = some (r, μ') → FrC μ μ') (h_3 : ∀ (x0 x1 : Int) (μ μ' : Mem) (r : Int), isK x0 7 → rec 3 x0 x1 μ = some (r, μ') → FrC μ μ') (h_4 : ∀ (x0 x1 : Int) (μ μ' : Mem) (r : Int), isK x0 7 → rec 4 x0 x1 μ = some (r, μ') → FrC μ μ') (h_5 : ∀ (x0 x1 : Int) (μ μ' : Mem) (r : Int), isK x0 7 → rec 5 x0 x1 μ = some (r, μ') → FrC μ μ') (h_6 : ∀ (x0 x1 : Int) (μ μ' : Mem) (r : Int), isK x0 7 → rec 6 x0 x1 μ = some (r, μ') → FrC μ μ') {x0 : Int} {μ μ' : Mem} {r : Int} (t0 : isK x0 7) (hf : f_X7_readUnit_j35 rec x0 μ = some (r, μ')) : FrC μ μ' := by
  unfold f_X7_readUnit_j35 at hf
  exact frc_w_X7_readUnit_36 _ h_0 h_1 h_2 h_3 h_4 h_5 h_6 t0 hf
theorem frc_w_X7_readUnit_0 (rec : Nat → Int → Int → Mem → Option (Int × Mem)) (h_0 : ∀ (x0 x1 : Int) (μ μ' : Mem) (r : Int), isK x0 7 → rec 0 x0 x1 μ = some (r, μ') → FrC μ μ') (h_1 : ∀ (x0 x1 : Int) (μ μ' : Mem) (r : Int), isK x0 7 → rec 1 x0 x1 μ = some (r, μ') → FrC μ μ') (h_2 : ∀ (x0 x1 : Int) (μ μ' : Mem) (r : Int), isK x0 7 → rec 2 x0 x1 μ = some (r, μ') → FrC μ μ') (h_3 : ∀ (x0 x1 : Int) (μ μ' : Mem) (r : Int), isK x0 7 → rec 3 x0 x1 μ = some (r, μ') → FrC μ μ') (h_4 : ∀ (x0 x1 : Int) (μ μ' : Mem) (r : Int), isK x0 7 → rec 4 x0 x1 μ = some (r, μ') → FrC μ μ') (h_5 : ∀ (x0 x1 : Int) (μ μ' : Mem) (r : Int), isK x0 7 → rec 5 x0 x1 μ = some (r, μ') → FrC μ μ') (h_6 : ∀ (x0 x1 : Int) (μ μ' : Mem) (r : Int), isK x0 7 → rec 6 x0 x1 μ = some (r, μ') → FrC μ μ') {x0 x1 : Int} {μ μ' : Mem} {r : Int} (t0 : isK x0 7) (hf : b_X7_readUnit rec x0 x1 μ = some (r, μ')) : FrC μ μ' := by
  unfold b_X7_readUnit at hf
  rcases Decidable.em (nrm (μ (x0 + 1) 0) = nrm 147) with c1 | c1
  · have hf := ite_t c1 hf
    obtain ⟨r29, μ28, e30, hf⟩ := bn_some hf
    have fq10 := (frc_X7_takeOpening t0 e30)
    rcases Decidable.em (nrm r29 = 0) with c31 | c31
    · have hf := ite_t c31 hf
      exact fq10.trans (frc_w_X7_readUnit_35 _ h_0 h_1 h_2 h_3 h_4 h_5 h_6 t0 hf)
    · have hf := ite_f c31 hf
      obtain ⟨r33, μ32, e34, hf⟩ := bn_some hf
      have fq11 := fq10.trans (h_6 _ _ _ _ _ t0 e34)
      rcases Decidable.em (nrm r33 = 0) with c35 | c35
      · have hf := ite_t c35 hf
        exact fq11.trans (frc_w_X7_readUnit_35 _ h_0 h_1 h_2 h_3 h_4 h_5 h_6 t0 hf)
      · have hf := ite_f c35 hf
        exact fq11.trans (frc_w_X7_readUnit_36 _ h_0 h_1 h_2 h_3 h_4 h_5 h_6 t0 hf)
  · have hf := ite_f c1 hf
    rcases Decidable.em (nrm (μ (x0 + 1) 0) = nrm 91) with c2 | c2
    · have hf := ite_t c2 hf
      obtain ⟨r17, μ16, e18, hf⟩ := bn_some hf
      have fq7 := (frc_X7_takeOpening t0 e18)
      rcases Decidable.em (nrm r17 = 0) with c19 | c19
      · have hf := ite_t c19 hf
        cases hf; exact fq7
      · have hf := ite_f c19 hf
        obtain ⟨r21, μ20, e22, hf⟩ := bn_some hf
        have fq8 := fq7.trans (h_5 _ _ _ _ _ t0 e22)
        rcases Decidable.em (nrm r21 = 0) with c23 | c23
        · have hf := ite_t c23 hf
          cases hf; exact fq8
        · have hf := ite_f c23 hf
          obtain ⟨r25, μ24, e26, hf⟩ := bn_some hf
          have fq9 := fq8.trans (frc_X7_take t0 e26)
          rcases Decidable.em (nrm r25 = 0) with c27 | c27
          · have hf := ite_t c27 hf
            cases hf; exact fq9
          · have hf := ite_f c27 hf
            cases hf; exact fq9
    · have hf := ite_f c2 hf
      obtain ⟨r4, μ3, e5, hf⟩ := bn_some hf
      have fq5 := (h_3 _ _ _ _ _ t0 e5)
      rcases Decidable.em (nrm r4 = 0) with c6 | c6
      · have hf := ite_t c6 hf
        cases hf; exact fq5
      · have hf := ite_f c6 hf
        obtain ⟨v7, e8, hf⟩ := nm_some hf
        rcases Decidable.em (nrm v7 = nrm 61) with c9 | c9
        · have hf := ite_t c9 hf
          exact fq5.trans (frc_w_X7_readUnit_139 _ h_0 h_1 h_2 h_3 h_4 h_5 h_6 t0 hf)
        · have hf := ite_f c9 hf
          rcases Decidable.em (nrm v7 = nrm 60) with c10 | c10
          · have hf := ite_t c10 hf
            exact fq5.trans (frc_w_X7_readUnit_139 _ h_0 h_1 h_2 h_3 h_4 h_5 h_6 t0 hf)
          · have hf := ite_f c10 hf
            rcases Decidable.em (nrm v7 = nrm 62) with c11 | c11
            · have hf := ite_t c11 hf
              exact fq5.trans (frc_w_X7_readUnit_139 _ h_0 h_1 h_2 h_3 h_4 h_5 h_6 t0 hf)
            · have hf := ite_f c11 hf
              obtain ⟨r13, μ12, e14, hf⟩ := bn_some hf
              have fq6 := fq5.trans (frc_X7_refuse t0 e14)
              obtain ⟨g15, hf⟩ := gd_some hf
              cases hf; exact fq6
theorem frcg_X7_readAtom : ∀ n0 : Nat, (∀ (x0 x1 : Int) (μ μ' : Mem) (r : Int), isK x0 7 → g_X7_readAtom n0 0 x0 x1 μ = some (r, μ') → FrC μ μ') ∧ (∀ (x0 x1 : Int) (μ μ' : Mem) (r : Int), isK x0 7 → g_X7_readAtom n0 1 x0 x1 μ = some (r, μ') → FrC μ μ') ∧ (∀ (x0 x1 : Int) (μ μ' : Mem) (r : Int), isK x0 7 → g_X7_readAtom n0 2 x0 x1 μ = some (r, μ') → FrC μ μ') ∧ (∀ (x0 x1 : Int) (μ μ' : Mem) (r : Int), isK x0 7 → g_X7_readAtom n0 3 x0 x1 μ = some (r, μ') → FrC μ μ') ∧ (∀ (x0 x1 : Int) (μ μ' : Mem) (r : Int), isK x0 7 → g_X7_readAtom n0 4 x0 x1 μ = some (r, μ') → FrC μ μ') ∧ (∀ (x0 x1 : Int) (μ μ' : Mem) (r : Int), isK x0 7 → g_X7_readAtom n0 5 x0 x1 μ = some (r, μ') → FrC μ μ') ∧ (∀ (x0 x1 : Int) (μ μ' : Mem) (r : Int), isK x0 7 → g_X7_readAtom n0 6 x0 x1 μ = some (r, μ') → FrC μ μ') := by
  intro n0
  induction n0 with
  | zero => exact ⟨fun _ _ _ _ _ _ hf => (by cases hf), fun _ _ _ _ _ _ hf => (by cases hf), fun _ _ _ _ _ _ hf => (by cases hf), fun _ _ _ _ _ _ hf => (by cases hf), fun _ _ _ _ _ _ hf => (by cases hf), fun _ _ _ _ _ _ hf => (by cases hf), fun _ _ _ _ _ _ hf => (by cases hf)⟩
  | succ n0 ih =>
    obtain ⟨h_0, h_1, h_2, h_3, h_4, h_5, h_6⟩ := ih
    refine ⟨?_, ?_, ?_, ?_, ?_, ?_, ?_⟩
    · intro x0 x1 μ μ' r t0 hf
      rw [g_X7_readAtom.eq_2] at hf
      have hf := ite_t rfl hf
      exact frc_w_X7_readAtom_0 _ h_0 h_1 h_2 h_3 h_4 h_5 h_6 t0 hf
    · intro x0 x1 μ μ' r t0 hf
      rw [g_X7_readAtom.eq_2] at hf
      have hf := ite_t rfl (ite_f (by decide) hf)
      exact frc_w_X7_readBoth_0 _ h_0 h_1 h_2 h_3 h_4 h_5 h_6 t0 hf
    · intro x0 x1 μ μ' r t0 hf
      rw [g_X7_readAtom.eq_2] at hf
      have hf := ite_t rfl (ite_f (by decide) (ite_f (by decide) hf))
      exact frc_w_X7_readIf_0 _ h_0 h_1 h_2 h_3 h_4 h_5 h_6 t0 hf
    · intro x0 x1 μ μ' r t0 hf
      rw [g_X7_readAtom.eq_2] at hf
      have hf := ite_t rfl (ite_f (by decide) (ite_f (by decide) (ite_f (by decide) hf)))
      exact frc_w_X7_readSum_0 _ h_0 h_1 h_2 h_3 h_4 h_5 h_6 t0 hf
    · intro x0 x1 μ μ' r t0 hf
      rw [g_X7_readAtom.eq_2] at hf
      have hf := ite_t rfl (ite_f (by decide) (ite_f (by decide) (ite_f (by decide) (ite_f (by decide) hf))))
      exact frc_w_X7_readTerm_0 _ h_0 h_1 h_2 h_3 h_4 h_5 h_6 t0 hf
    · intro x0 x1 μ μ' r t0 hf
      rw [g_X7_readAtom.eq_2] at hf
      have hf := ite_t rfl (ite_f (by decide) (ite_f (by decide) (ite_f (by decide) (ite_f (by decide) (ite_f (by decide) hf)))))
      exact frc_w_X7_readTruth_0 _ h_0 h_1 h_2 h_3 h_4 h_5 h_6 t0 hf
    · intro x0 x1 μ μ' r t0 hf
      rw [g_X7_readAtom.eq_2] at hf
      have hf := ite_t rfl (ite_f (by decide) (ite_f (by decide) (ite_f (by decide) (ite_f (by decide) (ite_f (by decide) (ite_f (by decide) hf))))))
      exact frc_w_X7_readUnit_0 _ h_0 h_1 h_2 h_3 h_4 h_5 h_6 t0 hf
theorem frc_X7_readAtom {x0 x1 : Int} {μ μ' : Mem} {r : Int} (t0 : isK x0 7) (hf : f_X7_readAtom x0 x1 μ = some (r, μ')) : FrC μ μ' := ((frcg_X7_readAtom 64).1) _ _ _ _ _ t0 hf
theorem frc_X7_readBoth {x0 x1 : Int} {μ μ' : Mem} {r : Int} (t0 : isK x0 7) (hf : f_X7_readBoth x0 x1 μ = some (r, μ')) : FrC μ μ' := ((frcg_X7_readAtom 64).2.1) _ _ _ _ _ t0 hf
theorem frc_X7_readIf {x0 x1 : Int} {μ μ' : Mem} {r : Int} (t0 : isK x0 7) (hf : f_X7_readIf x0 x1 μ = some (r, μ')) : FrC μ μ' := ((frcg_X7_readAtom 64).2.2.1) _ _ _ _ _ t0 hf
theorem frc_X7_readSum {x0 x1 : Int} {μ μ' : Mem} {r : Int} (t0 : isK x0 7) (hf : f_X7_readSum x0 x1 μ = some (r, μ')) : FrC μ μ' := ((frcg_X7_readAtom 64).2.2.2.1) _ _ _ _ _ t0 hf
theorem frc_X7_readTerm {x0 x1 : Int} {μ μ' : Mem} {r : Int} (t0 : isK x0 7) (hf : f_X7_readTerm x0 x1 μ = some (r, μ')) : FrC μ μ' := ((frcg_X7_readAtom 64).2.2.2.2.1) _ _ _ _ _ t0 hf
theorem frc_X7_readTruth {x0 x1 : Int} {μ μ' : Mem} {r : Int} (t0 : isK x0 7) (hf : f_X7_readTruth x0 x1 μ = some (r, μ')) : FrC μ μ' := ((frcg_X7_readAtom 64).2.2.2.2.2.1) _ _ _ _ _ t0 hf
theorem frc_X7_readUnit {x0 x1 : Int} {μ μ' : Mem} {r : Int} (t0 : isK x0 7) (hf : f_X7_readUnit x0 x1 μ = some (r, μ')) : FrC μ μ' := ((frcg_X7_readAtom 64).2.2.2.2.2.2) _ _ _ _ _ t0 hf
theorem frc_X7_readWears {x0 : Int} {μ μ' : Mem} {r : Int} (t0 : isK x0 7) (hf : f_X7_readWears x0 μ = some (r, μ')) : FrC μ μ' := by
  unfold f_X7_readWears at hf
  obtain ⟨r2, μ1, e3, hf⟩ := bn_some hf
  have fq1 := (frc_X9_advance (ow_7_0 t0) e3)
  obtain ⟨μ4, e5, hf⟩ := nm_some hf
  have fq2 := fq1.trans (frc_ms (by have := bd_7 t0; omega) e5)
  obtain ⟨g6, hf⟩ := gd_some hf
  obtain ⟨r8, μ7, e9, hf⟩ := bn_some hf
  have fq3 := fq2.trans (frc_X4_stepsNow (ow_3_14 g6) e9)
  obtain ⟨r11, μ10, e12, hf⟩ := bn_some hf
  have fq4 := fq3.trans (frc_X7_take t0 e12)
  rcases Decidable.em (nrm r11 = 0) with c13 | c13
  · have hf := ite_t c13 hf
    cases hf; exact fq4
  · have hf := ite_f c13 hf
    obtain ⟨r15, μ14, e16, hf⟩ := bn_some hf
    have fq5 := fq4.trans (frc_X7_readSum t0 e16)
    rcases Decidable.em (nrm r15 = 0) with c17 | c17
    · have hf := ite_t c17 hf
      cases hf; exact fq5
    · have hf := ite_f c17 hf
      obtain ⟨g18, hf⟩ := gd_some hf
      obtain ⟨r20, μ19, e21, hf⟩ := bn_some hf
      have fq6 := fq5.trans (frc_X4_enact (ow_3_14 g18) e21)
      obtain ⟨r23, μ22, e24, hf⟩ := bn_some hf
      have fq7 := fq6.trans (frc_X7_takeLineEnd t0 e24)
      obtain ⟨g25, hf⟩ := gd_some hf
      cases hf; exact fq7
theorem frc_X7_readMay {x0 : Int} {μ μ' : Mem} {r : Int} (t0 : isK x0 7) (hf : f_X7_readMay x0 μ = some (r, μ')) : FrC μ μ' := by
  unfold f_X7_readMay at hf
  obtain ⟨r2, μ1, e3, hf⟩ := bn_some hf
  have fq1 := (frc_X9_advance (ow_7_0 t0) e3)
  obtain ⟨μ4, e5, hf⟩ := nm_some hf
  have fq2 := fq1.trans (frc_ms (by have := bd_7 t0; omega) e5)
  obtain ⟨g6, hf⟩ := gd_some hf
  obtain ⟨r8, μ7, e9, hf⟩ := bn_some hf
  have fq3 := fq2.trans (frc_X4_stepsNow (ow_3_14 g6) e9)
  obtain ⟨r11, μ10, e12, hf⟩ := bn_some hf
  have fq4 := fq3.trans (frc_X7_take t0 e12)
  rcases Decidable.em (nrm r11 = 0) with c13 | c13
  · have hf := ite_t c13 hf
    cases hf; exact fq4
  · have hf := ite_f c13 hf
    obtain ⟨r15, μ14, e16, hf⟩ := bn_some hf
    have fq5 := fq4.trans (frc_X7_readTruth t0 e16)
    rcases Decidable.em (nrm r15 = 0) with c17 | c17
    · have hf := ite_t c17 hf
      cases hf; exact fq5
    · have hf := ite_f c17 hf
      obtain ⟨g18, hf⟩ := gd_some hf
      obtain ⟨r20, μ19, e21, hf⟩ := bn_some hf
      have fq6 := fq5.trans (frc_X4_enact (ow_3_14 g18) e21)
      obtain ⟨r23, μ22, e24, hf⟩ := bn_some hf
      have fq7 := fq6.trans (frc_X7_takeLineEnd t0 e24)
      obtain ⟨g25, hf⟩ := gd_some hf
      cases hf; exact fq7
theorem frc_w_X7_readLine_102 {x0 : Int} {μ μ' : Mem} {r : Int} (t0 : isK x0 7) (hf : f_X7_readLine_j102 x0 μ = some (r, μ')) : FrC μ μ' := by
  unfold f_X7_readLine_j102 at hf
  obtain ⟨r2, μ1, e3, hf⟩ := bn_some hf
  have fq1 := (frc_X7_refuse t0 e3)
  obtain ⟨g4, hf⟩ := gd_some hf
  cases hf; exact fq1
theorem frc_X7_readLine {x0 : Int} {μ μ' : Mem} {r : Int} (t0 : isK x0 7) (hf : f_X7_readLine x0 μ = some (r, μ')) : FrC μ μ' := by
  unfold f_X7_readLine at hf
  rcases Decidable.em (nrm (μ (x0 + 1) 0) = 130) with c1 | c1
  · have hf := ite_t c1 hf
    obtain ⟨r3, μ2, e4, hf⟩ := bn_some hf
    have fq2 := (frc_X7_readLane t0 e4)
    obtain ⟨g5, hf⟩ := gd_some hf
    cases hf; exact fq2
  have hf := ite_f c1 hf
  rcases Decidable.em (nrm (μ (x0 + 1) 0) = 134) with c6 | c6
  · have hf := ite_t c6 hf
    obtain ⟨r8, μ7, e9, hf⟩ := bn_some hf
    have fq3 := (frc_X7_readCart t0 e9)
    obtain ⟨g10, hf⟩ := gd_some hf
    cases hf; exact fq3
  have hf := ite_f c6 hf
  rcases Decidable.em (nrm (μ (x0 + 1) 0) = 137) with c11 | c11
  · have hf := ite_t c11 hf
    obtain ⟨r13, μ12, e14, hf⟩ := bn_some hf
    have fq4 := (frc_X7_readPerson t0 e14)
    obtain ⟨g15, hf⟩ := gd_some hf
    cases hf; exact fq4
  have hf := ite_f c11 hf
  rcases Decidable.em (nrm (μ (x0 + 1) 0) = 140) with c16 | c16
  · have hf := ite_t c16 hf
    obtain ⟨r18, μ17, e19, hf⟩ := bn_some hf
    have fq5 := (frc_X7_readRain t0 e19)
    obtain ⟨g20, hf⟩ := gd_some hf
    cases hf; exact fq5
  have hf := ite_f c16 hf
  rcases Decidable.em (nrm (μ (x0 + 1) 0) = 141) with c21 | c21
  · have hf := ite_t c21 hf
    obtain ⟨r23, μ22, e24, hf⟩ := bn_some hf
    have fq6 := (frc_X7_readWears t0 e24)
    obtain ⟨g25, hf⟩ := gd_some hf
    cases hf; exact fq6
  have hf := ite_f c21 hf
  rcases Decidable.em (nrm (μ (x0 + 1) 0) = 142) with c26 | c26
  · have hf := ite_t c26 hf
    obtain ⟨r28, μ27, e29, hf⟩ := bn_some hf
    have fq7 := (frc_X7_readMay t0 e29)
    obtain ⟨g30, hf⟩ := gd_some hf
    cases hf; exact fq7
  have hf := ite_f c26 hf
  exact frc_w_X7_readLine_102 t0 hf
theorem frc_w_X7_readInto_49 : ∀ (n : Nat) (x0 x4 x5 : Int) (μ μ' : Mem) (r : Int), isK x0 7 → f_X7_readInto_w49 n x0 x4 x5 μ = some (r, μ') → FrC μ μ' := by
  intro n
  induction n with
  | zero => intro x0 x4 x5 μ μ' r t0 hf; cases hf
  | succ n ih =>
    intro x0 x4 x5 μ μ' r t0 hf
    rw [f_X7_readInto_w49.eq_2] at hf
    rcases Decidable.em (nrm 900 ≤ nrm x5) with c1 | c1
    · have hf := ite_t c1 hf
      cases hf; exact frc_rf
    · have hf := ite_f c1 hf
      rcases Decidable.em (nrm x4 = 0) with c2 | c2
      · have hf := ite_t c2 hf
        cases hf; exact frc_rf
      · have hf := ite_f c2 hf
        rcases Decidable.em (nrm (μ (x0 + 1) 0) = 0) with c3 | c3
        · have hf := ite_t c3 hf
          cases hf; exact frc_rf
        · have hf := ite_f c3 hf
          obtain ⟨r5, μ4, e6, hf⟩ := bn_some hf
          have fq1 := (frc_X7_readLine t0 e6)
          exact fq1.trans (ih _ _ _ _ _ _ t0 hf)
theorem frc_X7_readInto {x0 x1 x2 x3 : Int} {μ μ' : Mem} {r : Int} (t0 : isK x0 7) (hf : f_X7_readInto x0 x1 x2 x3 μ = some (r, μ')) : FrC μ μ' := by
  unfold f_X7_readInto at hf
  obtain ⟨μ1, e2, hf⟩ := nm_some hf
  have fq2 := (frc_ms (by have := bd_7 t0; omega) e2)
  obtain ⟨μ3, e4, hf⟩ := nm_some hf
  have fq3 := fq2.trans (frc_ms (by have := bd_7 t0; omega) e4)
  obtain ⟨μ5, e6, hf⟩ := nm_some hf
  have fq4 := fq3.trans (frc_ms (by have := bd_7 t0; omega) e6)
  rcases Decidable.em ((μ5 x0 1) < 0) with c7 | c7
  · have hf := ite_t c7 hf
    cases hf; exact fq4
  · have hf := ite_f c7 hf
    obtain ⟨g8, hf⟩ := gd_some hf
    obtain ⟨r10, μ9, e11, hf⟩ := bn_some hf
    have fq5 := fq4.trans (frc_X3_makeEmpty g8 e11)
    obtain ⟨r13, μ12, e14, hf⟩ := bn_some hf
    have fq6 := fq5.trans (frc_X9_begin (ow_7_0 t0) e14)
    obtain ⟨r16, μ15, e17, hf⟩ := bn_some hf
    have fq7 := fq6.trans (frc_X7_readLandLine t0 e17)
    exact fq7.trans (frc_w_X7_readInto_49 FU _ _ _ _ _ _ t0 hf)
theorem frc_X7_placeOfFault {x0 : Int} {μ μ' : Mem} {r : Int} (t0 : isK x0 7) (hf : f_X7_placeOfFault x0 μ = some (r, μ')) : FrC μ μ' := by
  unfold f_X7_placeOfFault at hf
  cases hf; exact frc_rf
theorem frc_X8_isOpenAt {x0 x1 x2 : Int} {μ μ' : Mem} {r : Int} (t0 : isK x0 8) (hf : f_X8_isOpenAt x0 x1 x2 μ = some (r, μ')) : FrC μ μ' := by
  unfold f_X8_isOpenAt at hf
  obtain ⟨v1, e2, hf⟩ := nm_some hf
  rcases Decidable.em (nrm v1 < 0) with c3 | c3
  · have hf := ite_t c3 hf
    cases hf; exact frc_rf
  · have hf := ite_f c3 hf
    rcases Decidable.em (nrm 63 ≤ nrm v1) with c4 | c4
    · have hf := ite_t c4 hf
      cases hf; exact frc_rf
    · have hf := ite_f c4 hf
      obtain ⟨g5, hf⟩ := gd_some hf
      rcases Decidable.em (nrm (μ (x0 + 1) (nrm v1)) = 0) with c6 | c6
      · have hf := ite_t c6 hf
        cases hf; exact frc_rf
      · have hf := ite_f c6 hf
        cases hf; exact frc_rf
theorem frc_X8_depthBehind {x0 x1 x2 : Int} {μ μ' : Mem} {r : Int} (t0 : isK x0 8) (hf : f_X8_depthBehind x0 x1 x2 μ = some (r, μ')) : FrC μ μ' := by
  unfold f_X8_depthBehind at hf
  obtain ⟨v1, e2, hf⟩ := nm_some hf
  rcases Decidable.em (nrm v1 < 0) with c3 | c3
  · have hf := ite_t c3 hf
    cases hf; exact frc_rf
  · have hf := ite_f c3 hf
    rcases Decidable.em (nrm 63 ≤ nrm v1) with c4 | c4
    · have hf := ite_t c4 hf
      cases hf; exact frc_rf
    · have hf := ite_f c4 hf
      obtain ⟨g5, hf⟩ := gd_some hf
      cases hf; exact frc_rf
theorem frc_w_X8_pairsFrom_178 (k84 : Int → Int → Int → Int → Mem → Option (Int × Mem)) (h84 : ∀ (x0 x1 x2 x3 : Int) (μ μ' : Mem) (r : Int), isK x0 8 → k84 x0 x1 x2 x3 μ = some (r, μ') → FrC μ μ') {x0 x1 x2 x3 : Int} {μ μ' : Mem} {r : Int} (t0 : isK x0 8) (hf : f_X8_pairsFrom_j178 k84 x0 x1 x2 x3 μ = some (r, μ')) : FrC μ μ' := by
  unfold f_X8_pairsFrom_j178 at hf
  exact h84 _ _ _ _ _ _ _ t0 hf
theorem frc_w_X8_pairsFrom_84 : ∀ (n : Nat) (x0 x1 x2 x3 : Int) (μ μ' : Mem) (r : Int), isK x0 8 → f_X8_pairsFrom_w84 n x0 x1 x2 x3 μ = some (r, μ') → FrC μ μ' := by
  intro n
  induction n with
  | zero => intro x0 x1 x2 x3 μ μ' r t0 hf; cases hf
  | succ n ih =>
    intro x0 x1 x2 x3 μ μ' r t0 hf
    rw [f_X8_pairsFrom_w84.eq_2] at hf
    obtain ⟨g1, hf⟩ := gd_some hf
    rcases Decidable.em (nrm (μ (μ x0 4) 1) ≤ nrm x3) with c2 | c2
    · have hf := ite_t c2 hf
      cases hf; exact frc_rf
    · have hf := ite_f c2 hf
      rcases Decidable.em (nrm 9 ≤ nrm x3) with c3 | c3
      · have hf := ite_t c3 hf
        cases hf; exact frc_rf
      · have hf := ite_f c3 hf
        obtain ⟨r5, μ4, e6, hf⟩ := bn_some hf
        have fq1 := (frc_X3_otherEnd g1 e6)
        rcases Decidable.em (nrm r5 < 0) with c7 | c7
        · have hf := ite_t c7 hf
          exact fq1.trans (frc_w_X8_pairsFrom_178 _ ih t0 hf)
        · have hf := ite_f c7 hf
          rcases Decidable.em (nrm 7 ≤ nrm r5) with c8 | c8
          · have hf := ite_t c8 hf
            exact fq1.trans (frc_w_X8_pairsFrom_178 _ ih t0 hf)
          · have hf := ite_f c8 hf
            obtain ⟨g9, hf⟩ := gd_some hf
            obtain ⟨r11, μ10, e12, hf⟩ := bn_some hf
            have fq2 := fq1.trans (frc_X8_isOpenAt t0 e12)
            rcases Decidable.em (nrm r11 = 0) with c13 | c13
            · have hf := ite_t c13 hf
              exact fq2.trans (frc_w_X8_pairsFrom_178 _ ih t0 hf)
            · have hf := ite_f c13 hf
              obtain ⟨g14, hf⟩ := gd_some hf
              obtain ⟨v15, e16, hf⟩ := nm_some hf
              rcases Decidable.em (nrm x1 = nrm (μ10 x0 6)) with c17 | c17
              · have hf := ite_t c17 hf
                obtain ⟨g18, hf⟩ := gd_some hf
                obtain ⟨r20, μ19, e21, hf⟩ := bn_some hf
                have fq3 := fq2.trans (frc_X8_depthBehind t0 e21)
                obtain ⟨r23, μ22, e24, hf⟩ := bn_some hf
                have fq4 := fq3.trans (frc_X8_isOpenAt t0 e24)
                rcases Decidable.em (nrm r23 = 0) with c25 | c25
                · have hf := ite_t c25 hf
                  exact fq4.trans (frc_w_X8_pairsFrom_178 _ ih t0 hf)
                · have hf := ite_f c25 hf
                  exact fq4.trans (frc_w_X8_pairsFrom_178 _ ih t0 hf)
              · have hf := ite_f c17 hf
                exact fq2.trans (frc_w_X8_pairsFrom_178 _ ih t0 hf)
theorem frc_w_X8_pairsFrom_80 {x0 x1 : Int} {μ μ' : Mem} {r : Int} (t0 : isK x0 8) (hf : f_X8_pairsFrom_j80 x0 x1 μ = some (r, μ')) : FrC μ μ' := by
  unfold f_X8_pairsFrom_j80 at hf
  exact frc_w_X8_pairsFrom_84 FU _ _ _ _ _ _ _ t0 hf
theorem frc_w_X8_pairsFrom_74 (k10 : Int → Int → Int → Mem → Option (Int × Mem)) (h10 : ∀ (x0 x1 x2 : Int) (μ μ' : Mem) (r : Int), isK x0 8 → k10 x0 x1 x2 μ = some (r, μ') → FrC μ μ') {x0 x1 x2 : Int} {μ μ' : Mem} {r : Int} (t0 : isK x0 8) (hf : f_X8_pairsFrom_j74 k10 x0 x1 x2 μ = some (r, μ')) : FrC μ μ' := by
  unfold f_X8_pairsFrom_j74 at hf
  exact h10 _ _ _ _ _ _ t0 hf
theorem frc_w_X8_pairsFrom_10 : ∀ (n : Nat) (x0 x1 x2 : Int) (μ μ' : Mem) (r : Int), isK x0 8 → f_X8_pairsFrom_w10 n x0 x1 x2 μ = some (r, μ') → FrC μ μ' := by
  intro n
  induction n with
  | zero => intro x0 x1 x2 μ μ' r t0 hf; cases hf
  | succ n ih =>
    intro x0 x1 x2 μ μ' r t0 hf
    rw [f_X8_pairsFrom_w10.eq_2] at hf
    obtain ⟨g1, hf⟩ := gd_some hf
    rcases Decidable.em (nrm (μ (μ x0 4) 1) ≤ nrm x2) with c2 | c2
    · have hf := ite_t c2 hf
      exact frc_w_X8_pairsFrom_80 t0 hf
    · have hf := ite_f c2 hf
      rcases Decidable.em (nrm 9 ≤ nrm x2) with c3 | c3
      · have hf := ite_t c3 hf
        exact frc_w_X8_pairsFrom_80 t0 hf
      · have hf := ite_f c3 hf
        obtain ⟨r5, μ4, e6, hf⟩ := bn_some hf
        have fq5 := (frc_X3_otherEnd g1 e6)
        rcases Decidable.em (nrm r5 < 0) with c7 | c7
        · have hf := ite_t c7 hf
          exact fq5.trans (frc_w_X8_pairsFrom_74 _ ih t0 hf)
        · have hf := ite_f c7 hf
          rcases Decidable.em (nrm 7 ≤ nrm r5) with c8 | c8
          · have hf := ite_t c8 hf
            exact fq5.trans (frc_w_X8_pairsFrom_74 _ ih t0 hf)
          · have hf := ite_f c8 hf
            obtain ⟨g9, hf⟩ := gd_some hf
            obtain ⟨r11, μ10, e12, hf⟩ := bn_some hf
            have fq6 := fq5.trans (frc_X8_isOpenAt t0 e12)
            rcases Decidable.em (nrm r11 = 0) with c13 | c13
            · have hf := ite_t c13 hf
              exact fq6.trans (frc_w_X8_pairsFrom_74 _ ih t0 hf)
            · have hf := ite_f c13 hf
              obtain ⟨g14, hf⟩ := gd_some hf
              obtain ⟨g17, hf⟩ := gd_some hf
              obtain ⟨μ15, e16, hf⟩ := nm_some hf
              have fq7 := fq6.trans (frc_ms (by have := bd_8 t0; omega) e16)
              exact fq7.trans (frc_w_X8_pairsFrom_74 _ ih t0 hf)
theorem frc_X8_pairsFrom {x0 x1 : Int} {μ μ' : Mem} {r : Int} (t0 : isK x0 8) (hf : f_X8_pairsFrom x0 x1 μ = some (r, μ')) : FrC μ μ' := by
  unfold f_X8_pairsFrom at hf
  obtain ⟨r2, μ1, e3, hf⟩ := bn_some hf
  have fq8 := (frc_J7_fill_53178 (by have := bd_8 t0; omega) e3)
  exact fq8.trans (frc_w_X8_pairsFrom_10 FU _ _ _ _ _ _ t0 hf)
theorem frc_w_X8_rowsFrom_145 (rec : Nat → Int → Int → Int → Mem → Option (Int × Mem)) (h_0 : ∀ (x0 x1 x2 : Int) (μ μ' : Mem) (r : Int), isK x0 8 → rec 0 x0 x1 x2 μ = some (r, μ') → FrC μ μ') (k50 : Int → Int → Int → Int → Int → Mem → Option (Int × Mem)) (h50 : ∀ (x0 x1 x2 x4 x5 : Int) (μ μ' : Mem) (r : Int), isK x0 8 → k50 x0 x1 x2 x4 x5 μ = some (r, μ') → FrC μ μ') {x0 x1 x2 x4 x5 : Int} {μ μ' : Mem} {r : Int} (t0 : isK x0 8) (hf : f_X8_rowsFrom_j145 rec k50 x0 x1 x2 x4 x5 μ = some (r, μ')) : FrC μ μ' := by
  unfold f_X8_rowsFrom_j145 at hf
  exact h50 _ _ _ _ _ _ _ _ t0 hf
theorem frc_w_X8_rowsFrom_50 (rec : Nat → Int → Int → Int → Mem → Option (Int × Mem)) (h_0 : ∀ (x0 x1 x2 : Int) (μ μ' : Mem) (r : Int), isK x0 8 → rec 0 x0 x1 x2 μ = some (r, μ') → FrC μ μ') : ∀ (n : Nat) (x0 x1 x2 x4 x5 : Int) (μ μ' : Mem) (r : Int), isK x0 8 → f_X8_rowsFrom_w50 rec n x0 x1 x2 x4 x5 μ = some (r, μ') → FrC μ μ' := by
  intro n
  induction n with
  | zero => intro x0 x1 x2 x4 x5 μ μ' r t0 hf; cases hf
  | succ n ih =>
    intro x0 x1 x2 x4 x5 μ μ' r t0 hf
    rw [f_X8_rowsFrom_w50.eq_2] at hf
    obtain ⟨g1, hf⟩ := gd_some hf
    rcases Decidable.em (nrm (μ (μ x0 4) 1) ≤ nrm x5) with c2 | c2
    · have hf := ite_t c2 hf
      cases hf; exact frc_rf
    · have hf := ite_f c2 hf
      rcases Decidable.em (nrm 9 ≤ nrm x5) with c3 | c3
      · have hf := ite_t c3 hf
        cases hf; exact frc_rf
      · have hf := ite_f c3 hf
        obtain ⟨r5, μ4, e6, hf⟩ := bn_some hf
        have fq1 := (frc_X3_otherEnd g1 e6)
        obtain ⟨g7, hf⟩ := gd_some hf
        obtain ⟨v8, e9, hf⟩ := nm_some hf
        rcases Decidable.em (nrm r5 = nrm (-1)) with c10 | c10
        · have hf := ite_t c10 hf
          exact fq1.trans (frc_w_X8_rowsFrom_145 _ h_0 _ ih t0 hf)
        · have hf := ite_f c10 hf
          obtain ⟨r12, μ11, e13, hf⟩ := bn_some hf
          have fq2 := fq1.trans (frc_X8_isOpenAt t0 e13)
          rcases Decidable.em (nrm r12 = 0) with c14 | c14
          · have hf := ite_t c14 hf
            exact fq2.trans (frc_w_X8_rowsFrom_145 _ h_0 _ ih t0 hf)
          · have hf := ite_f c14 hf
            obtain ⟨r16, μ15, e17, hf⟩ := bn_some hf
            have fq3 := fq2.trans (frc_X8_depthBehind t0 e17)
            obtain ⟨g20, hf⟩ := gd_some hf
            obtain ⟨μ18, e19, hf⟩ := nm_some hf
            have fq4 := fq3.trans (frc_ms (by have := bd_8 t0; omega) e19)
            obtain ⟨r22, μ21, e23, hf⟩ := bn_some hf
            have fq5 := fq4.trans (h_0 _ _ _ _ _ _ t0 e23)
            obtain ⟨v24, e25, hf⟩ := nm_some hf
            obtain ⟨g28, hf⟩ := gd_some hf
            obtain ⟨μ26, e27, hf⟩ := nm_some hf
            have fq6 := fq5.trans (frc_ms (by have := bd_8 t0; omega) e27)
            exact fq6.trans (frc_w_X8_rowsFrom_145 _ h_0 _ ih t0 hf)
theorem frc_w_X8_rowsFrom_0 (rec : Nat → Int → Int → Int → Mem → Option (Int × Mem)) (h_0 : ∀ (x0 x1 x2 : Int) (μ μ' : Mem) (r : Int), isK x0 8 → rec 0 x0 x1 x2 μ = some (r, μ') → FrC μ μ') {x0 x1 x2 : Int} {μ μ' : Mem} {r : Int} (t0 : isK x0 8) (hf : b_X8_rowsFrom rec x0 x1 x2 μ = some (r, μ')) : FrC μ μ' := by
  unfold b_X8_rowsFrom at hf
  obtain ⟨g1, hf⟩ := gd_some hf
  obtain ⟨r3, μ2, e4, hf⟩ := bn_some hf
  have fq7 := (frc_X6_farFrom g1 e4)
  rcases Decidable.em (nrm r3 = nrm (-1)) with c5 | c5
  · have hf := ite_t c5 hf
    cases hf; exact fq7
  · have hf := ite_f c5 hf
    rcases Decidable.em (nrm x2 < nrm r3) with c6 | c6
    · have hf := ite_t c6 hf
      cases hf; exact fq7
    · have hf := ite_f c6 hf
      rcases Decidable.em (nrm x2 ≤ nrm 6) with c7 | c7
      · have hf := ite_t c7 hf
        rcases Decidable.em (0 < nrm x2) with c8 | c8
        · have hf := ite_t c8 hf
          rcases Decidable.em (nrm x2 = nrm 2) with c9 | c9
          · have hf := ite_t c9 hf
            obtain ⟨r11, μ10, e12, hf⟩ := bn_some hf
            have fq8 := fq7.trans (frc_X8_pairsFrom t0 e12)
            cases hf; exact fq8
          · have hf := ite_f c9 hf
            exact fq7.trans (frc_w_X8_rowsFrom_50 _ h_0 FU _ _ _ _ _ _ _ _ t0 hf)
        · have hf := ite_f c8 hf
          cases hf; exact fq7
      · have hf := ite_f c7 hf
        cases hf; exact fq7
theorem frcg_X8_rowsFrom : ∀ n0 : Nat, (∀ (x0 x1 x2 : Int) (μ μ' : Mem) (r : Int), isK x0 8 → g_X8_rowsFrom n0 0 x0 x1 x2 μ = some (r, μ') → FrC μ μ') := by
  intro n0
  induction n0 with
  | zero => exact fun _ _ _ _ _ _ _ hf => (by cases hf)
  | succ n0 ih =>
    have h_0 := ih
    · intro x0 x1 x2 μ μ' r t0 hf
      rw [g_X8_rowsFrom.eq_2] at hf
      have hf := ite_t rfl hf
      exact frc_w_X8_rowsFrom_0 _ h_0 t0 hf
theorem frc_X8_rowsFrom {x0 x1 x2 : Int} {μ μ' : Mem} {r : Int} (t0 : isK x0 8) (hf : f_X8_rowsFrom x0 x1 x2 μ = some (r, μ')) : FrC μ μ' := ((frcg_X8_rowsFrom 64)) _ _ _ _ _ _ t0 hf
theorem frc_w_X8_countRows_44 (k21 : Int → Int → Int → Int → Mem → Option (Int × Mem)) (h21 : ∀ (x0 x1 x4 x5 : Int) (μ μ' : Mem) (r : Int), isK x0 8 → k21 x0 x1 x4 x5 μ = some (r, μ') → FrC μ μ') : ∀ (n : Nat) (x0 x1 x4 x5 x6 : Int) (μ μ' : Mem) (r : Int), isK x0 8 → f_X8_countRows_w44 k21 n x0 x1 x4 x5 x6 μ = some (r, μ') → FrC μ μ' := by
  intro n
  induction n with
  | zero => intro x0 x1 x4 x5 x6 μ μ' r t0 hf; cases hf
  | succ n ih =>
    intro x0 x1 x4 x5 x6 μ μ' r t0 hf
    rw [f_X8_countRows_w44.eq_2] at hf
    rcases Decidable.em (nrm 7 ≤ nrm x6) with c1 | c1
    · have hf := ite_t c1 hf
      exact h21 _ _ _ _ _ _ _ t0 hf
    · have hf := ite_f c1 hf
      obtain ⟨g2, hf⟩ := gd_some hf
      obtain ⟨r4, μ3, e5, hf⟩ := bn_some hf
      have fq1 := (frc_X3_mayGo g2 e5)
      obtain ⟨g8, hf⟩ := gd_some hf
      obtain ⟨g9, hf⟩ := gd_some hf
      obtain ⟨μ6, e7, hf⟩ := nm_some hf
      have fq2 := fq1.trans (frc_ms (by have := bd_8 t0; omega) e7)
      obtain ⟨g10, hf⟩ := gd_some hf
      obtain ⟨g11, hf⟩ := gd_some hf
      obtain ⟨r13, μ12, e14, hf⟩ := bn_some hf
      have fq3 := fq2.trans (frc_X3_wornFrom g11 e14)
      obtain ⟨g17, hf⟩ := gd_some hf
      obtain ⟨μ15, e16, hf⟩ := nm_some hf
      have fq4 := fq3.trans (frc_ms (by have := bd_8 t0; omega) e16)
      exact fq4.trans (ih _ _ _ _ _ _ _ _ t0 hf)
theorem frc_w_X8_countRows_21 : ∀ (n : Nat) (x0 x1 x4 x5 : Int) (μ μ' : Mem) (r : Int), isK x0 8 → f_X8_countRows_w21 n x0 x1 x4 x5 μ = some (r, μ') → FrC μ μ' := by
  intro n
  induction n with
  | zero => intro x0 x1 x4 x5 μ μ' r t0 hf; cases hf
  | succ n ih =>
    intro x0 x1 x4 x5 μ μ' r t0 hf
    rw [f_X8_countRows_w21.eq_2] at hf
    rcases Decidable.em (nrm 9 ≤ nrm x5) with c1 | c1
    · have hf := ite_t c1 hf
      obtain ⟨g2, hf⟩ := gd_some hf
      obtain ⟨r4, μ3, e5, hf⟩ := bn_some hf
      have fq5 := (frc_X8_rowsFrom t0 e5)
      cases hf; exact fq5
    · have hf := ite_f c1 hf
      obtain ⟨g6, hf⟩ := gd_some hf
      obtain ⟨r8, μ7, e9, hf⟩ := bn_some hf
      have fq6 := (frc_X0_depthOf g6 e9)
      obtain ⟨g12, hf⟩ := gd_some hf
      obtain ⟨μ10, e11, hf⟩ := nm_some hf
      have fq7 := fq6.trans (frc_ms (by have := bd_8 t0; omega) e11)
      exact fq7.trans (frc_w_X8_countRows_44 _ ih FU _ _ _ _ _ _ _ _ t0 hf)
theorem frc_X8_countRows {x0 x1 x2 x3 x4 : Int} {μ μ' : Mem} {r : Int} (t0 : isK x0 8) (hf : f_X8_countRows x0 x1 x2 x3 x4 μ = some (r, μ')) : FrC μ μ' := by
  unfold f_X8_countRows at hf
  obtain ⟨g1, hf⟩ := gd_some hf
  obtain ⟨μ2, e3, hf⟩ := nm_some hf
  have fq8 := (frc_ms (by have := bd_8 t0; omega) e3)
  obtain ⟨μ4, e5, hf⟩ := nm_some hf
  have fq9 := fq8.trans (frc_ms (by have := bd_8 t0; omega) e5)
  obtain ⟨μ6, e7, hf⟩ := nm_some hf
  have fq10 := fq9.trans (frc_ms (by have := bd_8 t0; omega) e7)
  exact fq10.trans (frc_w_X8_countRows_21 FU _ _ _ _ _ _ _ t0 hf)
theorem frc_w_J7_fill_d0a16_6 : ∀ (n : Nat) (x0 x1 x3 x4 : Int) (μ μ' : Mem) (r : Int), f_J7_fill_d0a16_w6 n x0 x1 x3 x4 μ = some (r, μ') → FrC μ μ' := by
  intro n
  induction n with
  | zero => intro x0 x1 x3 x4 μ μ' r hf; cases hf
  | succ n ih =>
    intro x0 x1 x3 x4 μ μ' r hf
    rw [f_J7_fill_d0a16_w6.eq_2] at hf
    rcases Decidable.em (nrm x4 ≤ nrm x3) with c1 | c1
    · have hf := ite_t c1 hf
      cases hf; exact frc_rf
    · have hf := ite_f c1 hf
      obtain ⟨g4, hf⟩ := gd_some hf
      obtain ⟨g5, hf⟩ := gd_some hf
      obtain ⟨μ2, e3, hf⟩ := nm_some hf
      have fq1 := (frc_ms (by have := bd_40040 g4; omega) e3)
      exact fq1.trans (ih _ _ _ _ _ _ _ hf)
theorem frc_J7_fill_d0a16 {x0 x1 : Int} {μ μ' : Mem} {r : Int} (hf : f_J7_fill_d0a16 x0 x1 μ = some (r, μ')) : FrC μ μ' := by
  unfold f_J7_fill_d0a16 at hf
  obtain ⟨g1, hf⟩ := gd_some hf
  exact frc_w_J7_fill_d0a16_6 FU _ _ _ _ _ _ _ hf
theorem frc_X10_makeNew {x0 x1 x2 : Int} {μ μ' : Mem} {r : Int} (t0 : isK x0 10) (hf : f_X10_makeNew x0 x1 x2 μ = some (r, μ')) : FrC μ μ' := by
  unfold f_X10_makeNew at hf
  obtain ⟨μ1, e2, hf⟩ := nm_some hf
  have fq1 := (frc_ms (by have := bd_10 t0; omega) e2)
  obtain ⟨μ3, e4, hf⟩ := nm_some hf
  have fq2 := fq1.trans (frc_ms (by have := bd_10 t0; omega) e4)
  obtain ⟨μ5, e6, hf⟩ := nm_some hf
  have fq3 := fq2.trans (frc_ms (by have := bd_10 t0; omega) e6)
  obtain ⟨r8, μ7, e9, hf⟩ := bn_some hf
  have fq4 := fq3.trans (frc_J7_fill_d0a16 e9)
  cases hf; exact fq4
theorem frc_X10_numberAt {x0 x1 : Int} {μ μ' : Mem} {r : Int} (t0 : isK x0 10) (hf : f_X10_numberAt x0 x1 μ = some (r, μ')) : FrC μ μ' := by
  unfold f_X10_numberAt at hf
  rcases Decidable.em (nrm x1 < 0) with c1 | c1
  · have hf := ite_t c1 hf
    cases hf; exact frc_rf
  · have hf := ite_f c1 hf
    rcases Decidable.em (nrm (μ x0 1) ≤ nrm x1) with c2 | c2
    · have hf := ite_t c2 hf
      cases hf; exact frc_rf
    · have hf := ite_f c2 hf
      rcases Decidable.em (nrm x1 < nrm 40) with c3 | c3
      · have hf := ite_t c3 hf
        obtain ⟨g4, hf⟩ := gd_some hf
        cases hf; exact frc_rf
      · have hf := ite_f c3 hf
        cases hf; exact frc_rf
theorem frc_X10_cutToSort {x0 x1 : Int} {μ μ' : Mem} {r : Int} (t0 : isK x0 10) (hf : f_X10_cutToSort x0 x1 μ = some (r, μ')) : FrC μ μ' := by
  unfold f_X10_cutToSort at hf
  rcases Decidable.em (nrm (μ x0 2) = 0) with c1 | c1
  · have hf := ite_t c1 hf
    cases hf; exact frc_rf
  have hf := ite_f c1 hf
  rcases Decidable.em (nrm (μ x0 2) = 1) with c2 | c2
  · have hf := ite_t c2 hf
    cases hf; exact frc_rf
  have hf := ite_f c2 hf
  rcases Decidable.em (nrm (μ x0 2) = 2) with c3 | c3
  · have hf := ite_t c3 hf
    cases hf; exact frc_rf
  have hf := ite_f c3 hf
  cases hf; exact frc_rf
theorem frc_X10_put {x0 x1 x2 : Int} {μ μ' : Mem} {r : Int} (t0 : isK x0 10) (hf : f_X10_put x0 x1 x2 μ = some (r, μ')) : FrC μ μ' := by
  unfold f_X10_put at hf
  rcases Decidable.em (nrm x1 < 0) with c1 | c1
  · have hf := ite_t c1 hf
    cases hf; exact frc_rf
  · have hf := ite_f c1 hf
    rcases Decidable.em (nrm (μ x0 1) ≤ nrm x1) with c2 | c2
    · have hf := ite_t c2 hf
      cases hf; exact frc_rf
    · have hf := ite_f c2 hf
      rcases Decidable.em (nrm 40 ≤ nrm x1) with c3 | c3
      · have hf := ite_t c3 hf
        cases hf; exact frc_rf
      · have hf := ite_f c3 hf
        obtain ⟨r5, μ4, e6, hf⟩ := bn_some hf
        have fq1 := (frc_X10_cutToSort t0 e6)
        obtain ⟨g9, hf⟩ := gd_some hf
        obtain ⟨μ7, e8, hf⟩ := nm_some hf
        have fq2 := fq1.trans (frc_ms (by have := bd_10 t0; omega) e8)
        cases hf; exact fq2
theorem frc_w_X11_putOnTape_49 (k3 : Int → Int → Int → Mem → Option (Int × Mem)) (h3 : ∀ (x0 x1 x2 : Int) (μ μ' : Mem) (r : Int), isK x0 11 → k3 x0 x1 x2 μ = some (r, μ') → FrC μ μ') {x0 x1 x2 : Int} {μ μ' : Mem} {r : Int} (t0 : isK x0 11) (hf : f_X11_putOnTape_j49 k3 x0 x1 x2 μ = some (r, μ')) : FrC μ μ' := by
  unfold f_X11_putOnTape_j49 at hf
  exact h3 _ _ _ _ _ _ t0 hf
theorem frc_w_X11_putOnTape_3 : ∀ (n : Nat) (x0 x1 x2 : Int) (μ μ' : Mem) (r : Int), isK x0 11 → f_X11_putOnTape_w3 n x0 x1 x2 μ = some (r, μ') → FrC μ μ' := by
  intro n
  induction n with
  | zero => intro x0 x1 x2 μ μ' r t0 hf; cases hf
  | succ n ih =>
    intro x0 x1 x2 μ μ' r t0 hf
    rw [f_X11_putOnTape_w3.eq_2] at hf
    rcases Decidable.em (nrm x2 < 0) with c1 | c1
    · have hf := ite_t c1 hf
      cases hf; exact frc_rf
    · have hf := ite_f c1 hf
      rcases Decidable.em (nrm (μ x0 1) < 0) with c2 | c2
      · have hf := ite_t c2 hf
        exact frc_w_X11_putOnTape_49 _ ih t0 hf
      · have hf := ite_f c2 hf
        rcases Decidable.em (nrm 900 ≤ nrm (μ x0 1)) with c3 | c3
        · have hf := ite_t c3 hf
          exact frc_w_X11_putOnTape_49 _ ih t0 hf
        · have hf := ite_f c3 hf
          obtain ⟨g6, hf⟩ := gd_some hf
          obtain ⟨μ4, e5, hf⟩ := nm_some hf
          have fq1 := (frc_ms (by have := bd_11 t0; omega) e5)
          obtain ⟨μ7, e8, hf⟩ := nm_some hf
          have fq2 := fq1.trans (frc_ms (by have := bd_11 t0; omega) e8)
          exact fq2.trans (frc_w_X11_putOnTape_49 _ ih t0 hf)
theorem frc_X11_putOnTape {x0 x1 : Int} {μ μ' : Mem} {r : Int} (t0 : isK x0 11) (hf : f_X11_putOnTape x0 x1 μ = some (r, μ')) : FrC μ μ' := by
  unfold f_X11_putOnTape at hf
  exact frc_w_X11_putOnTape_3 FU _ _ _ _ _ _ t0 hf
theorem frc_X11_feed {x0 x1 x2 x3 x4 x5 : Int} {μ μ' : Mem} {r : Int} (t0 : isK x0 11) (hf : f_X11_feed x0 x1 x2 x3 x4 x5 μ = some (r, μ')) : FrC μ μ' := by
  unfold f_X11_feed at hf
  rcases Decidable.em (nrm ((μ x0 1) + 20) ≤ nrm 900) with c1 | c1
  · have hf := ite_t c1 hf
    obtain ⟨r3, μ2, e4, hf⟩ := bn_some hf
    have fq1 := (frc_X11_putOnTape t0 e4)
    obtain ⟨r6, μ5, e7, hf⟩ := bn_some hf
    have fq2 := fq1.trans (frc_X11_putOnTape t0 e7)
    obtain ⟨r9, μ8, e10, hf⟩ := bn_some hf
    have fq3 := fq2.trans (frc_X11_putOnTape t0 e10)
    obtain ⟨r12, μ11, e13, hf⟩ := bn_some hf
    have fq4 := fq3.trans (frc_X11_putOnTape t0 e13)
    obtain ⟨r15, μ14, e16, hf⟩ := bn_some hf
    have fq5 := fq4.trans (frc_X11_putOnTape t0 e16)
    cases hf; exact fq5
  · have hf := ite_f c1 hf
    cases hf; exact frc_rf
theorem frc_w_X11_spareLand_109 (k9 : Int → Int → Int → Mem → Option (Int × Mem)) (h9 : ∀ (x0 x1 x2 : Int) (μ μ' : Mem) (r : Int), isK x0 11 → k9 x0 x1 x2 μ = some (r, μ') → FrC μ μ') {x0 x1 x2 : Int} {μ μ' : Mem} {r : Int} (t0 : isK x0 11) (hf : f_X11_spareLand_j109 k9 x0 x1 x2 μ = some (r, μ')) : FrC μ μ' := by
  unfold f_X11_spareLand_j109 at hf
  exact h9 _ _ _ _ _ _ t0 hf
theorem frc_w_X11_spareLand_91 (k9 : Int → Int → Int → Mem → Option (Int × Mem)) (h9 : ∀ (x0 x1 x2 : Int) (μ μ' : Mem) (r : Int), isK x0 11 → k9 x0 x1 x2 μ = some (r, μ') → FrC μ μ') (k43 : Int → Int → Int → Int → Int → Mem → Option (Int × Mem)) (h43 : ∀ (x0 x1 x2 x3 x4 : Int) (μ μ' : Mem) (r : Int), isK x0 11 → k43 x0 x1 x2 x3 x4 μ = some (r, μ') → FrC μ μ') {x0 x1 x2 x4 s0 : Int} {μ μ' : Mem} {r : Int} (t0 : isK x0 11) (hf : f_X11_spareLand_j91 k9 k43 x0 x1 x2 x4 s0 μ = some (r, μ')) : FrC μ μ' := by
  unfold f_X11_spareLand_j91 at hf
  exact h43 _ _ _ _ _ _ _ _ t0 hf
theorem frc_w_X11_spareLand_86 (k9 : Int → Int → Int → Mem → Option (Int × Mem)) (h9 : ∀ (x0 x1 x2 : Int) (μ μ' : Mem) (r : Int), isK x0 11 → k9 x0 x1 x2 μ = some (r, μ') → FrC μ μ') (k43 : Int → Int → Int → Int → Int → Mem → Option (Int × Mem)) (h43 : ∀ (x0 x1 x2 x3 x4 : Int) (μ μ' : Mem) (r : Int), isK x0 11 → k43 x0 x1 x2 x3 x4 μ = some (r, μ') → FrC μ μ') {x0 x1 x2 x4 : Int} {μ μ' : Mem} {r : Int} (t0 : isK x0 11) (hf : f_X11_spareLand_j86 k9 k43 x0 x1 x2 x4 μ = some (r, μ')) : FrC μ μ' := by
  unfold f_X11_spareLand_j86 at hf
  exact frc_w_X11_spareLand_91 _ h9 _ h43 t0 hf
theorem frc_w_X11_spareLand_90 (k9 : Int → Int → Int → Mem → Option (Int × Mem)) (h9 : ∀ (x0 x1 x2 : Int) (μ μ' : Mem) (r : Int), isK x0 11 → k9 x0 x1 x2 μ = some (r, μ') → FrC μ μ') (k43 : Int → Int → Int → Int → Int → Mem → Option (Int × Mem)) (h43 : ∀ (x0 x1 x2 x3 x4 : Int) (μ μ' : Mem) (r : Int), isK x0 11 → k43 x0 x1 x2 x3 x4 μ = some (r, μ') → FrC μ μ') {x0 x1 x2 x4 : Int} {μ μ' : Mem} {r : Int} (t0 : isK x0 11) (hf : f_X11_spareLand_j90 k9 k43 x0 x1 x2 x4 μ = some (r, μ')) : FrC μ μ' := by
  unfold f_X11_spareLand_j90 at hf
  exact frc_w_X11_spareLand_91 _ h9 _ h43 t0 hf
theorem frc_w_X11_spareLand_43 (k9 : Int → Int → Int → Mem → Option (Int × Mem)) (h9 : ∀ (x0 x1 x2 : Int) (μ μ' : Mem) (r : Int), isK x0 11 → k9 x0 x1 x2 μ = some (r, μ') → FrC μ μ') : ∀ (n : Nat) (x0 x1 x2 x3 x4 : Int) (μ μ' : Mem) (r : Int), isK x0 11 → f_X11_spareLand_w43 k9 n x0 x1 x2 x3 x4 μ = some (r, μ') → FrC μ μ' := by
  intro n
  induction n with
  | zero => intro x0 x1 x2 x3 x4 μ μ' r t0 hf; cases hf
  | succ n ih =>
    intro x0 x1 x2 x3 x4 μ μ' r t0 hf
    rw [f_X11_spareLand_w43.eq_2] at hf
    rcases Decidable.em (nrm 2 ≤ nrm x4) with c1 | c1
    · have hf := ite_t c1 hf
      rcases Decidable.em (nrm x3 = 0) with c2 | c2
      · have hf := ite_t c2 hf
        obtain ⟨g3, hf⟩ := gd_some hf
        exact frc_w_X11_spareLand_109 _ h9 t0 hf
      · have hf := ite_f c2 hf
        exact frc_w_X11_spareLand_109 _ h9 t0 hf
    · have hf := ite_f c1 hf
      rcases Decidable.em (nrm x3 = 0) with c4 | c4
      · have hf := ite_t c4 hf
        obtain ⟨g5, hf⟩ := gd_some hf
        rcases Decidable.em (((x0 + 84) + 1 + 2 * (nrm x4)) < 0) with c6 | c6
        · have hf := ite_t c6 hf
          exact frc_w_X11_spareLand_90 _ h9 _ ih t0 hf
        · have hf := ite_f c6 hf
          obtain ⟨g7, hf⟩ := gd_some hf
          obtain ⟨g8, hf⟩ := gd_some hf
          obtain ⟨g9, hf⟩ := gd_some hf
          rcases Decidable.em (((x0 + 5) + 1 + 13 * (nrm x2)) = (μ ((x0 + 84) + 1 + 2 * (nrm x4)) 0)) with c10 | c10
          · have hf := ite_t c10 hf
            exact frc_w_X11_spareLand_86 _ h9 _ ih t0 hf
          · have hf := ite_f c10 hf
            exact frc_w_X11_spareLand_90 _ h9 _ ih t0 hf
      · have hf := ite_f c4 hf
        exact frc_w_X11_spareLand_86 _ h9 _ ih t0 hf
theorem frc_w_X11_spareLand_39 (k9 : Int → Int → Int → Mem → Option (Int × Mem)) (h9 : ∀ (x0 x1 x2 : Int) (μ μ' : Mem) (r : Int), isK x0 11 → k9 x0 x1 x2 μ = some (r, μ') → FrC μ μ') {x0 x1 x2 s0 : Int} {μ μ' : Mem} {r : Int} (t0 : isK x0 11) (hf : f_X11_spareLand_j39 k9 x0 x1 x2 s0 μ = some (r, μ')) : FrC μ μ' := by
  unfold f_X11_spareLand_j39 at hf
  exact frc_w_X11_spareLand_43 _ h9 FU _ _ _ _ _ _ _ _ t0 hf
theorem frc_w_X11_spareLand_9 : ∀ (n : Nat) (x0 x1 x2 : Int) (μ μ' : Mem) (r : Int), isK x0 11 → f_X11_spareLand_w9 n x0 x1 x2 μ = some (r, μ') → FrC μ μ' := by
  intro n
  induction n with
  | zero => intro x0 x1 x2 μ μ' r t0 hf; cases hf
  | succ n ih =>
    intro x0 x1 x2 μ μ' r t0 hf
    rw [f_X11_spareLand_w9.eq_2] at hf
    rcases Decidable.em (nrm 4 ≤ nrm x2) with c1 | c1
    · have hf := ite_t c1 hf
      cases hf; exact frc_rf
    · have hf := ite_f c1 hf
      obtain ⟨g2, hf⟩ := gd_some hf
      obtain ⟨g3, hf⟩ := gd_some hf
      rcases Decidable.em (((x0 + 5) + 1 + 13 * (nrm x2)) = (μ (x0 + 58) 0)) with c4 | c4
      · have hf := ite_t c4 hf
        exact frc_w_X11_spareLand_39 _ ih t0 hf
      · have hf := ite_f c4 hf
        exact frc_w_X11_spareLand_39 _ ih t0 hf
theorem frc_X11_spareLand {x0 : Int} {μ μ' : Mem} {r : Int} (t0 : isK x0 11) (hf : f_X11_spareLand x0 μ = some (r, μ')) : FrC μ μ' := by
  unfold f_X11_spareLand at hf
  exact frc_w_X11_spareLand_9 FU _ _ _ _ _ _ t0 hf
theorem frc_X11_land {x0 x1 : Int} {μ μ' : Mem} {r : Int} (t0 : isK x0 11) (hf : f_X11_land x0 x1 μ = some (r, μ')) : FrC μ μ' := by
  unfold f_X11_land at hf
  rcases Decidable.em (nrm x1 < 0) with c1 | c1
  · have hf := ite_t c1 hf
    cases hf; exact frc_rf
  · have hf := ite_f c1 hf
    rcases Decidable.em (nrm x1 ≤ nrm (μ x0 1)) with c2 | c2
    · have hf := ite_t c2 hf
      obtain ⟨μ3, e4, hf⟩ := nm_some hf
      have fq1 := (frc_ms (by have := bd_11 t0; omega) e4)
      obtain ⟨r6, μ5, e7, hf⟩ := bn_some hf
      have fq2 := fq1.trans (frc_X11_spareLand t0 e7)
      obtain ⟨r9, μ8, e10, hf⟩ := bn_some hf
      have fq3 := fq2.trans (frc_X7_readInto (ow_11_2 t0) e10)
      obtain ⟨μ11, e12, hf⟩ := nm_some hf
      have fq4 := fq3.trans (frc_ms (by have := bd_11 t0; omega) e12)
      obtain ⟨r14, μ13, e15, hf⟩ := bn_some hf
      have fq5 := fq4.trans (frc_X7_placeOfFault (ow_11_2 t0) e15)
      obtain ⟨μ16, e17, hf⟩ := nm_some hf
      have fq6 := fq5.trans (frc_ms (by have := bd_11 t0; omega) e17)
      rcases Decidable.em (nrm (μ16 x0 3) = 0) with c18 | c18
      · have hf := ite_t c18 hf
        obtain ⟨r20, μ19, e21, hf⟩ := bn_some hf
        have fq7 := fq6.trans (frc_X0_beginIn (ow_11_6 t0) e21)
        obtain ⟨r23, μ22, e24, hf⟩ := bn_some hf
        have fq8 := fq7.trans (frc_X2_forgetAll (ow_11_8 t0) e24)
        obtain ⟨g25, hf⟩ := gd_some hf
        cases hf; exact fq8
      · have hf := ite_f c18 hf
        cases hf; exact fq6
    · have hf := ite_f c2 hf
      cases hf; exact frc_rf
theorem frc_X11_fault {x0 x1 : Int} {μ μ' : Mem} {r : Int} (t0 : isK x0 11) (hf : f_X11_fault x0 x1 μ = some (r, μ')) : FrC μ μ' := by
  unfold f_X11_fault at hf
  rcases Decidable.em (nrm x1 = 0) with c1 | c1
  · have hf := ite_t c1 hf
    cases hf; exact frc_rf
  have hf := ite_f c1 hf
  rcases Decidable.em (nrm x1 = 1) with c2 | c2
  · have hf := ite_t c2 hf
    cases hf; exact frc_rf
  have hf := ite_f c2 hf
  cases hf; exact frc_rf
theorem frc_X11_lane {x0 x1 x2 : Int} {μ μ' : Mem} {r : Int} (t0 : isK x0 11) (hf : f_X11_lane x0 x1 x2 μ = some (r, μ')) : FrC μ μ' := by
  unfold f_X11_lane at hf
  obtain ⟨g1, hf⟩ := gd_some hf
  obtain ⟨r3, μ2, e4, hf⟩ := bn_some hf
  have fq1 := (frc_X3_hasLane g1 e4)
  rcases Decidable.em (nrm r3 = 0) with c5 | c5
  · have hf := ite_t c5 hf
    cases hf; exact fq1
  · have hf := ite_f c5 hf
    rcases Decidable.em (nrm x2 = 0) with c6 | c6
    · have hf := ite_t c6 hf
      obtain ⟨g7, hf⟩ := gd_some hf
      obtain ⟨g8, hf⟩ := gd_some hf
      cases hf; exact fq1
    have hf := ite_f c6 hf
    rcases Decidable.em (nrm x2 = 1) with c9 | c9
    · have hf := ite_t c9 hf
      obtain ⟨g10, hf⟩ := gd_some hf
      obtain ⟨g11, hf⟩ := gd_some hf
      cases hf; exact fq1
    have hf := ite_f c9 hf
    rcases Decidable.em (nrm x2 = 2) with c12 | c12
    · have hf := ite_t c12 hf
      obtain ⟨g13, hf⟩ := gd_some hf
      cases hf; exact fq1
    have hf := ite_f c12 hf
    rcases Decidable.em (nrm x2 = 3) with c14 | c14
    · have hf := ite_t c14 hf
      obtain ⟨g15, hf⟩ := gd_some hf
      obtain ⟨g16, hf⟩ := gd_some hf
      cases hf; exact fq1
    have hf := ite_f c14 hf
    rcases Decidable.em (nrm x2 = 4) with c17 | c17
    · have hf := ite_t c17 hf
      obtain ⟨g18, hf⟩ := gd_some hf
      obtain ⟨g19, hf⟩ := gd_some hf
      cases hf; exact fq1
    have hf := ite_f c17 hf
    rcases Decidable.em (nrm x2 = 5) with c20 | c20
    · have hf := ite_t c20 hf
      obtain ⟨r22, μ21, e23, hf⟩ := bn_some hf
      have fq2 := fq1.trans (frc_X0_isOpen (ow_11_6 t0) e23)
      rcases Decidable.em (nrm r22 = 0) with c24 | c24
      · have hf := ite_t c24 hf
        cases hf; exact fq2
      · have hf := ite_f c24 hf
        cases hf; exact fq2
    have hf := ite_f c20 hf
    cases hf; exact fq1
theorem frc_X11_why {x0 x1 : Int} {μ μ' : Mem} {r : Int} (t0 : isK x0 11) (hf : f_X11_why x0 x1 μ = some (r, μ')) : FrC μ μ' := by
  unfold f_X11_why at hf
  obtain ⟨r2, μ1, e3, hf⟩ := bn_some hf
  have fq1 := (frc_X0_whyNoGoing (ow_11_6 t0) e3)
  cases hf; exact fq1
theorem frc_X11_worn {x0 x1 : Int} {μ μ' : Mem} {r : Int} (t0 : isK x0 11) (hf : f_X11_worn x0 x1 μ = some (r, μ')) : FrC μ μ' := by
  unfold f_X11_worn at hf
  obtain ⟨g1, hf⟩ := gd_some hf
  obtain ⟨r3, μ2, e4, hf⟩ := bn_some hf
  have fq1 := (frc_X3_hasLane g1 e4)
  rcases Decidable.em (nrm r3 = 0) with c5 | c5
  · have hf := ite_t c5 hf
    cases hf; exact fq1
  · have hf := ite_f c5 hf
    obtain ⟨g6, hf⟩ := gd_some hf
    obtain ⟨g7, hf⟩ := gd_some hf
    obtain ⟨r9, μ8, e10, hf⟩ := bn_some hf
    have fq2 := fq1.trans (frc_X3_wornFrom g7 e10)
    cases hf; exact fq2
theorem frc_X11_fillings {x0 x1 : Int} {μ μ' : Mem} {r : Int} (t0 : isK x0 11) (hf : f_X11_fillings x0 x1 μ = some (r, μ')) : FrC μ μ' := by
  unfold f_X11_fillings at hf
  obtain ⟨g1, hf⟩ := gd_some hf
  obtain ⟨r3, μ2, e4, hf⟩ := bn_some hf
  have fq1 := (frc_X3_hasLane g1 e4)
  rcases Decidable.em (nrm r3 = 0) with c5 | c5
  · have hf := ite_t c5 hf
    cases hf; exact fq1
  · have hf := ite_f c5 hf
    obtain ⟨r7, μ6, e8, hf⟩ := bn_some hf
    have fq2 := fq1.trans (frc_X0_fillingsOf (ow_11_6 t0) e8)
    cases hf; exact fq2
theorem frc_X11_doOne {x0 x1 x2 : Int} {μ μ' : Mem} {r : Int} (t0 : isK x0 11) (hf : f_X11_doOne x0 x1 x2 μ = some (r, μ')) : FrC μ μ' := by
  unfold f_X11_doOne at hf
  rcases Decidable.em (nrm x2 < 0) with c1 | c1
  · have hf := ite_t c1 hf
    cases hf; exact frc_rf
  · have hf := ite_f c1 hf
    rcases Decidable.em (nrm x2 ≤ nrm 9) with c2 | c2
    · have hf := ite_t c2 hf
      obtain ⟨r4, μ3, e5, hf⟩ := bn_some hf
      have fq1 := (frc_X0_takeOver (ow_11_7 t0) e5)
      obtain ⟨r7, μ6, e8, hf⟩ := bn_some hf
      have fq2 := fq1.trans (frc_X0_tryDeed (ow_11_6 t0) e8)
      rcases Decidable.em (nrm r7 = 0) with c9 | c9
      · have hf := ite_t c9 hf
        obtain ⟨r11, μ10, e12, hf⟩ := bn_some hf
        have fq3 := fq2.trans (frc_X2_keep (ow_11_8 t0) e12)
        cases hf; exact fq3
      · have hf := ite_f c9 hf
        cases hf; exact fq2
    · have hf := ite_f c2 hf
      cases hf; exact frc_rf
theorem frc_X11_go {x0 x1 : Int} {μ μ' : Mem} {r : Int} (t0 : isK x0 11) (hf : f_X11_go x0 x1 μ = some (r, μ')) : FrC μ μ' := by
  unfold f_X11_go at hf
  obtain ⟨r2, μ1, e3, hf⟩ := bn_some hf
  have fq1 := (frc_X11_doOne t0 e3)
  rcases Decidable.em (nrm r2 = 0) with c4 | c4
  · have hf := ite_t c4 hf
    cases hf; exact fq1
  · have hf := ite_f c4 hf
    cases hf; exact fq1
theorem frc_X11_fill {x0 x1 : Int} {μ μ' : Mem} {r : Int} (t0 : isK x0 11) (hf : f_X11_fill x0 x1 μ = some (r, μ')) : FrC μ μ' := by
  unfold f_X11_fill at hf
  obtain ⟨r2, μ1, e3, hf⟩ := bn_some hf
  have fq1 := (frc_X11_doOne t0 e3)
  rcases Decidable.em (nrm r2 = 0) with c4 | c4
  · have hf := ite_t c4 hf
    obtain ⟨r6, μ5, e7, hf⟩ := bn_some hf
    have fq2 := fq1.trans (frc_X0_depthOf (ow_11_6 t0) e7)
    cases hf; exact fq2
  · have hf := ite_f c4 hf
    cases hf; exact fq1
theorem frc_X11_dig {x0 x1 : Int} {μ μ' : Mem} {r : Int} (t0 : isK x0 11) (hf : f_X11_dig x0 x1 μ = some (r, μ')) : FrC μ μ' := by
  unfold f_X11_dig at hf
  obtain ⟨r2, μ1, e3, hf⟩ := bn_some hf
  have fq1 := (frc_X11_doOne t0 e3)
  rcases Decidable.em (nrm r2 = 0) with c4 | c4
  · have hf := ite_t c4 hf
    obtain ⟨r6, μ5, e7, hf⟩ := bn_some hf
    have fq2 := fq1.trans (frc_X0_depthOf (ow_11_6 t0) e7)
    cases hf; exact fq2
  · have hf := ite_f c4 hf
    cases hf; exact fq1
theorem frc_X11_turn {x0 x1 : Int} {μ μ' : Mem} {r : Int} (t0 : isK x0 11) (hf : f_X11_turn x0 x1 μ = some (r, μ')) : FrC μ μ' := by
  unfold f_X11_turn at hf
  obtain ⟨r2, μ1, e3, hf⟩ := bn_some hf
  have fq1 := (frc_X11_doOne t0 e3)
  rcases Decidable.em (nrm r2 = 0) with c4 | c4
  · have hf := ite_t c4 hf
    cases hf; exact fq1
  · have hf := ite_f c4 hf
    cases hf; exact fq1
theorem frc_w_X11_seasons_27 : ∀ (n : Nat) (x0 x1 x2 : Int) (μ μ' : Mem) (r : Int), isK x0 11 → f_X11_seasons_w27 n x0 x1 x2 μ = some (r, μ') → FrC μ μ' := by
  intro n
  induction n with
  | zero => intro x0 x1 x2 μ μ' r t0 hf; cases hf
  | succ n ih =>
    intro x0 x1 x2 μ μ' r t0 hf
    rw [f_X11_seasons_w27.eq_2] at hf
    rcases Decidable.em (nrm x1 ≤ nrm x2) with c1 | c1
    · have hf := ite_t c1 hf
      obtain ⟨r3, μ2, e4, hf⟩ := bn_some hf
      have fq1 := (frc_J6_bitCount_0f7a4 e4)
      cases hf; exact fq1
    · have hf := ite_f c1 hf
      obtain ⟨r6, μ5, e7, hf⟩ := bn_some hf
      have fq2 := (frc_X0_tryDeed (ow_11_6 t0) e7)
      exact fq2.trans (ih _ _ _ _ _ _ t0 hf)
theorem frc_X11_seasons {x0 x1 : Int} {μ μ' : Mem} {r : Int} (t0 : isK x0 11) (hf : f_X11_seasons x0 x1 μ = some (r, μ')) : FrC μ μ' := by
  unfold f_X11_seasons at hf
  rcases Decidable.em (nrm x1 < nrm 1) with c1 | c1
  · have hf := ite_t c1 hf
    cases hf; exact frc_rf
  · have hf := ite_f c1 hf
    rcases Decidable.em (nrm x1 ≤ nrm 99) with c2 | c2
    · have hf := ite_t c2 hf
      obtain ⟨r4, μ3, e5, hf⟩ := bn_some hf
      have fq3 := (frc_X2_keep (ow_11_8 t0) e5)
      exact fq3.trans (frc_w_X11_seasons_27 FU _ _ _ _ _ _ t0 hf)
    · have hf := ite_f c2 hf
      cases hf; exact frc_rf
theorem frc_X11_rain {x0 x1 : Int} {μ μ' : Mem} {r : Int} (t0 : isK x0 11) (hf : f_X11_rain x0 x1 μ = some (r, μ')) : FrC μ μ' := by
  unfold f_X11_rain at hf
  obtain ⟨v1, e2, hf⟩ := nm_some hf
  obtain ⟨r4, μ3, e5, hf⟩ := bn_some hf
  have fq1 := (frc_X11_doOne t0 e5)
  rcases Decidable.em (nrm r4 = 0) with c6 | c6
  · have hf := ite_t c6 hf
    cases hf; exact fq1
  · have hf := ite_f c6 hf
    cases hf; exact fq1
theorem frc_X11_undo {x0 x1 : Int} {μ μ' : Mem} {r : Int} (t0 : isK x0 11) (hf : f_X11_undo x0 x1 μ = some (r, μ')) : FrC μ μ' := by
  unfold f_X11_undo at hf
  rcases Decidable.em (nrm x1 < nrm 1) with c1 | c1
  · have hf := ite_t c1 hf
    cases hf; exact frc_rf
  · have hf := ite_f c1 hf
    rcases Decidable.em (nrm 10 < nrm x1) with c2 | c2
    · have hf := ite_t c2 hf
      cases hf; exact frc_rf
    · have hf := ite_f c2 hf
      obtain ⟨r4, μ3, e5, hf⟩ := bn_some hf
      have fq1 := (frc_X2_kept (ow_11_8 t0) e5)
      rcases Decidable.em (nrm x1 ≤ nrm r4) with c6 | c6
      · have hf := ite_t c6 hf
        obtain ⟨r8, μ7, e9, hf⟩ := bn_some hf
        have fq2 := fq1.trans (frc_X2_bringBack (ow_11_8 t0) e9)
        obtain ⟨r11, μ10, e12, hf⟩ := bn_some hf
        have fq3 := fq2.trans (frc_X2_kept (ow_11_8 t0) e12)
        cases hf; exact fq3
      · have hf := ite_f c6 hf
        cases hf; exact fq1
theorem frc_X11_trayOf {x0 x1 : Int} {μ μ' : Mem} {r : Int} (t0 : isK x0 11) (hf : f_X11_trayOf x0 x1 μ = some (r, μ')) : FrC μ μ' := by
  unfold f_X11_trayOf at hf
  rcases Decidable.em (nrm x1 < 0) with c1 | c1
  · have hf := ite_t c1 hf
    cases hf; exact frc_rf
  · have hf := ite_f c1 hf
    rcases Decidable.em (nrm x1 < nrm 4) with c2 | c2
    · have hf := ite_t c2 hf
      obtain ⟨g3, hf⟩ := gd_some hf
      cases hf; exact frc_rf
    · have hf := ite_f c2 hf
      cases hf; exact frc_rf
theorem frc_w_X11_judge_95 {x0 x2 x4 x5 : Int} {μ μ' : Mem} {r : Int} (t0 : isK x0 11) (hf : f_X11_judge_j95 x0 x2 x4 x5 μ = some (r, μ')) : FrC μ μ' := by
  unfold f_X11_judge_j95 at hf
  rcases Decidable.em (nrm x2 = 0) with c1 | c1
  · have hf := ite_t c1 hf
    rcases Decidable.em (nrm x5 = 0) with c2 | c2
    · have hf := ite_t c2 hf
      cases hf; exact frc_rf
    · have hf := ite_f c2 hf
      cases hf; exact frc_rf
  have hf := ite_f c1 hf
  rcases Decidable.em (nrm x2 = 1) with c3 | c3
  · have hf := ite_t c3 hf
    cases hf; exact frc_rf
  have hf := ite_f c3 hf
  rcases Decidable.em (nrm x2 = 2) with c4 | c4
  · have hf := ite_t c4 hf
    cases hf; exact frc_rf
  have hf := ite_f c4 hf
  obtain ⟨r6, μ5, e7, hf⟩ := bn_some hf
  have fq1 := (frc_X0_allDepths (ow_11_7 t0) e7)
  cases hf; exact fq1
theorem frc_w_X11_judge_89 (k52 : Int → Int → Int → Int → Int → Int → Mem → Option (Int × Mem)) (h52 : ∀ (x0 x2 x3 x4 x5 x6 : Int) (μ μ' : Mem) (r : Int), isK x0 11 → k52 x0 x2 x3 x4 x5 x6 μ = some (r, μ') → FrC μ μ') {x0 x2 x3 x4 x5 x6 : Int} {μ μ' : Mem} {r : Int} (t0 : isK x0 11) (hf : f_X11_judge_j89 k52 x0 x2 x3 x4 x5 x6 μ = some (r, μ')) : FrC μ μ' := by
  unfold f_X11_judge_j89 at hf
  exact h52 _ _ _ _ _ _ _ _ _ t0 hf
theorem frc_w_X11_judge_52 : ∀ (n : Nat) (x0 x2 x3 x4 x5 x6 : Int) (μ μ' : Mem) (r : Int), isK x0 11 → f_X11_judge_w52 n x0 x2 x3 x4 x5 x6 μ = some (r, μ') → FrC μ μ' := by
  intro n
  induction n with
  | zero => intro x0 x2 x3 x4 x5 x6 μ μ' r t0 hf; cases hf
  | succ n ih =>
    intro x0 x2 x3 x4 x5 x6 μ μ' r t0 hf
    rw [f_X11_judge_w52.eq_2] at hf
    obtain ⟨g1, hf⟩ := gd_some hf
    rcases Decidable.em (nrm (μ x3 1) ≤ nrm x6) with c2 | c2
    · have hf := ite_t c2 hf
      exact frc_w_X11_judge_95 t0 hf
    · have hf := ite_f c2 hf
      rcases Decidable.em (nrm x5 = 0) with c3 | c3
      · have hf := ite_t c3 hf
        obtain ⟨r5, μ4, e6, hf⟩ := bn_some hf
        have fq2 := (frc_X10_numberAt g1 e6)
        obtain ⟨r8, μ7, e9, hf⟩ := bn_some hf
        have fq3 := fq2.trans (frc_X0_tryDeed (ow_11_7 t0) e9)
        rcases Decidable.em (nrm r8 = 0) with c10 | c10
        · have hf := ite_t c10 hf
          exact fq3.trans (frc_w_X11_judge_89 _ ih t0 hf)
        · have hf := ite_f c10 hf
          exact fq3.trans (frc_w_X11_judge_89 _ ih t0 hf)
      · have hf := ite_f c3 hf
        exact frc_w_X11_judge_95 t0 hf
theorem frc_X11_judge {x0 x1 x2 : Int} {μ μ' : Mem} {r : Int} (t0 : isK x0 11) (hf : f_X11_judge x0 x1 x2 μ = some (r, μ')) : FrC μ μ' := by
  unfold f_X11_judge at hf
  obtain ⟨r2, μ1, e3, hf⟩ := bn_some hf
  have fq4 := (frc_X11_trayOf t0 e3)
  rcases Decidable.em (r2 < 0) with c4 | c4
  · have hf := ite_t c4 hf
    cases hf; exact fq4
  · have hf := ite_f c4 hf
    rcases Decidable.em (nrm x2 < 0) with c5 | c5
    · have hf := ite_t c5 hf
      cases hf; exact fq4
    · have hf := ite_f c5 hf
      rcases Decidable.em (nrm x2 ≤ nrm 3) with c6 | c6
      · have hf := ite_t c6 hf
        obtain ⟨g7, hf⟩ := gd_some hf
        rcases Decidable.em (nrm (μ1 r2 0) = 0) with c8 | c8
        · have hf := ite_t c8 hf
          obtain ⟨r10, μ9, e11, hf⟩ := bn_some hf
          have fq5 := fq4.trans (frc_X0_takeOver (ow_11_7 t0) e11)
          exact fq5.trans (frc_w_X11_judge_52 FU _ _ _ _ _ _ _ _ _ t0 hf)
        · have hf := ite_f c8 hf
          cases hf; exact fq4
      · have hf := ite_f c6 hf
        cases hf; exact fq4
theorem frc_w_X11_perform_65 {x0 x3 : Int} {μ μ' : Mem} {r : Int} (t0 : isK x0 11) (hf : f_X11_perform_j65 x0 x3 μ = some (r, μ')) : FrC μ μ' := by
  unfold f_X11_perform_j65 at hf
  rcases Decidable.em (nrm x3 ≤ 0) with c1 | c1
  · have hf := ite_t c1 hf
    cases hf; exact frc_rf
  · have hf := ite_f c1 hf
    obtain ⟨r3, μ2, e4, hf⟩ := bn_some hf
    have fq1 := (frc_X2_keep (ow_11_8 t0) e4)
    cases hf; exact fq1
theorem frc_w_X11_perform_36 : ∀ (n : Nat) (x0 x2 x3 : Int) (μ μ' : Mem) (r : Int), isK x0 11 → f_X11_perform_w36 n x0 x2 x3 μ = some (r, μ') → FrC μ μ' := by
  intro n
  induction n with
  | zero => intro x0 x2 x3 μ μ' r t0 hf; cases hf
  | succ n ih =>
    intro x0 x2 x3 μ μ' r t0 hf
    rw [f_X11_perform_w36.eq_2] at hf
    obtain ⟨g1, hf⟩ := gd_some hf
    rcases Decidable.em (nrm (μ x2 1) ≤ nrm x3) with c2 | c2
    · have hf := ite_t c2 hf
      exact frc_w_X11_perform_65 t0 hf
    · have hf := ite_f c2 hf
      obtain ⟨r4, μ3, e5, hf⟩ := bn_some hf
      have fq2 := (frc_X10_numberAt g1 e5)
      obtain ⟨r7, μ6, e8, hf⟩ := bn_some hf
      have fq3 := fq2.trans (frc_X0_tryDeed (ow_11_6 t0) e8)
      rcases Decidable.em (nrm r7 = 0) with c9 | c9
      · have hf := ite_t c9 hf
        exact fq3.trans (ih _ _ _ _ _ _ t0 hf)
      · have hf := ite_f c9 hf
        exact fq3.trans (frc_w_X11_perform_65 t0 hf)
theorem frc_X11_perform {x0 x1 : Int} {μ μ' : Mem} {r : Int} (t0 : isK x0 11) (hf : f_X11_perform x0 x1 μ = some (r, μ')) : FrC μ μ' := by
  unfold f_X11_perform at hf
  obtain ⟨r2, μ1, e3, hf⟩ := bn_some hf
  have fq4 := (frc_X11_trayOf t0 e3)
  rcases Decidable.em (r2 < 0) with c4 | c4
  · have hf := ite_t c4 hf
    cases hf; exact fq4
  · have hf := ite_f c4 hf
    obtain ⟨g5, hf⟩ := gd_some hf
    rcases Decidable.em (nrm (μ1 r2 0) = 0) with c6 | c6
    · have hf := ite_t c6 hf
      obtain ⟨r8, μ7, e9, hf⟩ := bn_some hf
      have fq5 := fq4.trans (frc_X0_takeOver (ow_11_7 t0) e9)
      exact fq5.trans (frc_w_X11_perform_36 FU _ _ _ _ _ _ t0 hf)
    · have hf := ite_f c6 hf
      cases hf; exact fq4
theorem frc_X11_drawBehind {x0 : Int} {μ μ' : Mem} {r : Int} (hf : f_X11_drawBehind x0 μ = some (r, μ')) : FrC μ μ' := by
  unfold f_X11_drawBehind at hf
  cases hf; exact frc_rf
theorem frc_X11_drawnDeed {x0 x1 : Int} {μ μ' : Mem} {r : Int} (hf : f_X11_drawnDeed x0 x1 μ = some (r, μ')) : FrC μ μ' := by
  unfold f_X11_drawnDeed at hf
  rcases Decidable.em (nrm x0 = 3) with c1 | c1
  · have hf := ite_t c1 hf
    cases hf; exact frc_rf
  have hf := ite_f c1 hf
  rcases Decidable.em (nrm x0 = 4) with c2 | c2
  · have hf := ite_t c2 hf
    cases hf; exact frc_rf
  have hf := ite_f c2 hf
  rcases Decidable.em (nrm x0 = 5) with c3 | c3
  · have hf := ite_t c3 hf
    cases hf; exact frc_rf
  have hf := ite_f c3 hf
  rcases Decidable.em (nrm x0 = 6) with c4 | c4
  · have hf := ite_t c4 hf
    cases hf; exact frc_rf
  have hf := ite_f c4 hf
  cases hf; exact frc_rf
theorem frc_w_X11_year_96 (k33 : Int → Int → Int → Int → Int → Mem → Option (Int × Mem)) (h33 : ∀ (x0 x2 x3 x4 x5 : Int) (μ μ' : Mem) (r : Int), isK x0 11 → k33 x0 x2 x3 x4 x5 μ = some (r, μ') → FrC μ μ') {x0 x2 x3 x4 x5 : Int} {μ μ' : Mem} {r : Int} (t0 : isK x0 11) (hf : f_X11_year_j96 k33 x0 x2 x3 x4 x5 μ = some (r, μ')) : FrC μ μ' := by
  unfold f_X11_year_j96 at hf
  exact h33 _ _ _ _ _ _ _ _ t0 hf
theorem frc_w_X11_year_80 (k33 : Int → Int → Int → Int → Int → Mem → Option (Int × Mem)) (h33 : ∀ (x0 x2 x3 x4 x5 : Int) (μ μ' : Mem) (r : Int), isK x0 11 → k33 x0 x2 x3 x4 x5 μ = some (r, μ') → FrC μ μ') {x0 x2 x3 x4 x5 x7 : Int} {μ μ' : Mem} {r : Int} (t0 : isK x0 11) (hf : f_X11_year_j80 k33 x0 x2 x3 x4 x5 x7 μ = some (r, μ')) : FrC μ μ' := by
  unfold f_X11_year_j80 at hf
  obtain ⟨r2, μ1, e3, hf⟩ := bn_some hf
  have fq1 := (frc_X0_tryDeed (ow_11_6 t0) e3)
  rcases Decidable.em (nrm r2 = 0) with c4 | c4
  · have hf := ite_t c4 hf
    exact fq1.trans (frc_w_X11_year_96 _ h33 t0 hf)
  · have hf := ite_f c4 hf
    exact fq1.trans (frc_w_X11_year_96 _ h33 t0 hf)
theorem frc_w_X11_year_33 : ∀ (n : Nat) (x0 x2 x3 x4 x5 : Int) (μ μ' : Mem) (r : Int), isK x0 11 → f_X11_year_w33 n x0 x2 x3 x4 x5 μ = some (r, μ') → FrC μ μ' := by
  intro n
  induction n with
  | zero => intro x0 x2 x3 x4 x5 μ μ' r t0 hf; cases hf
  | succ n ih =>
    intro x0 x2 x3 x4 x5 μ μ' r t0 hf
    rw [f_X11_year_w33.eq_2] at hf
    rcases Decidable.em (nrm x2 ≤ nrm x5) with c1 | c1
    · have hf := ite_t c1 hf
      rcases Decidable.em (nrm x4 ≤ 0) with c2 | c2
      · have hf := ite_t c2 hf
        cases hf; exact frc_rf
      · have hf := ite_f c2 hf
        obtain ⟨r4, μ3, e5, hf⟩ := bn_some hf
        have fq2 := (frc_X2_keep (ow_11_8 t0) e5)
        cases hf; exact fq2
    · have hf := ite_f c1 hf
      obtain ⟨r7, μ6, e8, hf⟩ := bn_some hf
      have fq3 := (frc_X11_drawBehind e8)
      obtain ⟨v9, e10, hf⟩ := nm_some hf
      rcases Decidable.em (nrm v9 = nrm 7) with c11 | c11
      · have hf := ite_t c11 hf
        exact fq3.trans (frc_w_X11_year_80 _ ih t0 hf)
      · have hf := ite_f c11 hf
        obtain ⟨r13, μ12, e14, hf⟩ := bn_some hf
        have fq4 := fq3.trans (frc_X11_drawBehind e14)
        obtain ⟨r16, μ15, e17, hf⟩ := bn_some hf
        have fq5 := fq4.trans (frc_X11_drawnDeed e17)
        exact fq5.trans (frc_w_X11_year_80 _ ih t0 hf)
theorem frc_X11_year {x0 x1 x2 : Int} {μ μ' : Mem} {r : Int} (t0 : isK x0 11) (hf : f_X11_year x0 x1 x2 μ = some (r, μ')) : FrC μ μ' := by
  unfold f_X11_year at hf
  rcases Decidable.em (nrm x2 < nrm 1) with c1 | c1
  · have hf := ite_t c1 hf
    cases hf; exact frc_rf
  · have hf := ite_f c1 hf
    rcases Decidable.em (nrm x2 ≤ nrm 40) with c2 | c2
    · have hf := ite_t c2 hf
      obtain ⟨r4, μ3, e5, hf⟩ := bn_some hf
      have fq6 := (frc_X0_takeOver (ow_11_7 t0) e5)
      exact fq6.trans (frc_w_X11_year_33 FU _ _ _ _ _ _ _ _ t0 hf)
    · have hf := ite_f c2 hf
      cases hf; exact frc_rf
theorem frc_X11_reach {x0 : Int} {μ μ' : Mem} {r : Int} (t0 : isK x0 11) (hf : f_X11_reach x0 μ = some (r, μ')) : FrC μ μ' := by
  unfold f_X11_reach at hf
  obtain ⟨r2, μ1, e3, hf⟩ := bn_some hf
  have fq1 := (frc_X0_openLanes (ow_11_6 t0) e3)
  obtain ⟨g4, hf⟩ := gd_some hf
  obtain ⟨r6, μ5, e7, hf⟩ := bn_some hf
  have fq2 := fq1.trans (frc_X3_comingFrom g4 e7)
  cases hf; exact fq2
theorem frc_X11_soonest {x0 x1 : Int} {μ μ' : Mem} {r : Int} (t0 : isK x0 11) (hf : f_X11_soonest x0 x1 μ = some (r, μ')) : FrC μ μ' := by
  unfold f_X11_soonest at hf
  obtain ⟨g1, hf⟩ := gd_some hf
  obtain ⟨r3, μ2, e4, hf⟩ := bn_some hf
  have fq1 := (frc_X3_hasPlace g1 e4)
  rcases Decidable.em (nrm r3 = 0) with c5 | c5
  · have hf := ite_t c5 hf
    cases hf; exact fq1
  · have hf := ite_f c5 hf
    obtain ⟨r7, μ6, e8, hf⟩ := bn_some hf
    have fq2 := fq1.trans (frc_X6_measureOpen (ow_11_12 t0) e8)
    obtain ⟨r10, μ9, e11, hf⟩ := bn_some hf
    have fq3 := fq2.trans (frc_X6_farFrom (ow_11_12 t0) e11)
    cases hf; exact fq3
theorem frc_X11_rows {x0 x1 x2 : Int} {μ μ' : Mem} {r : Int} (t0 : isK x0 11) (hf : f_X11_rows x0 x1 x2 μ = some (r, μ')) : FrC μ μ' := by
  unfold f_X11_rows at hf
  obtain ⟨g1, hf⟩ := gd_some hf
  obtain ⟨r3, μ2, e4, hf⟩ := bn_some hf
  have fq1 := (frc_X3_hasPlace g1 e4)
  rcases Decidable.em (nrm r3 = 0) with c5 | c5
  · have hf := ite_t c5 hf
    cases hf; exact fq1
  · have hf := ite_f c5 hf
    rcases Decidable.em (nrm x2 < 0) with c6 | c6
    · have hf := ite_t c6 hf
      cases hf; exact fq1
    · have hf := ite_f c6 hf
      rcases Decidable.em (nrm x2 ≤ nrm 6) with c7 | c7
      · have hf := ite_t c7 hf
        obtain ⟨r9, μ8, e10, hf⟩ := bn_some hf
        have fq2 := fq1.trans (frc_X6_measureOpen (ow_11_12 t0) e10)
        obtain ⟨r12, μ11, e13, hf⟩ := bn_some hf
        have fq3 := fq2.trans (frc_X8_countRows (ow_11_13 t0) e13)
        cases hf; exact fq3
      · have hf := ite_f c7 hf
        cases hf; exact fq1
theorem frc_X11_way {x0 x1 x2 : Int} {μ μ' : Mem} {r : Int} (t0 : isK x0 11) (hf : f_X11_way x0 x1 x2 μ = some (r, μ')) : FrC μ μ' := by
  unfold f_X11_way at hf
  obtain ⟨g1, hf⟩ := gd_some hf
  obtain ⟨r3, μ2, e4, hf⟩ := bn_some hf
  have fq1 := (frc_X3_hasPlace g1 e4)
  rcases Decidable.em (nrm r3 = 0) with c5 | c5
  · have hf := ite_t c5 hf
    cases hf; exact fq1
  · have hf := ite_f c5 hf
    rcases Decidable.em (0 ≤ nrm x2) with c6 | c6
    · have hf := ite_t c6 hf
      obtain ⟨r8, μ7, e9, hf⟩ := bn_some hf
      have fq2 := fq1.trans (frc_X6_measureOpen (ow_11_12 t0) e9)
      obtain ⟨r11, μ10, e12, hf⟩ := bn_some hf
      have fq3 := fq2.trans (frc_X6_laneOnWay (ow_11_12 t0) e12)
      cases hf; exact fq3
    · have hf := ite_f c6 hf
      cases hf; exact fq1
theorem frc_w_X11_toAndFro_29 : ∀ (n : Nat) (x0 x1 x2 x3 : Int) (μ μ' : Mem) (r : Int), isK x0 11 → f_X11_toAndFro_w29 n x0 x1 x2 x3 μ = some (r, μ') → FrC μ μ' := by
  intro n
  induction n with
  | zero => intro x0 x1 x2 x3 μ μ' r t0 hf; cases hf
  | succ n ih =>
    intro x0 x1 x2 x3 μ μ' r t0 hf
    rw [f_X11_toAndFro_w29.eq_2] at hf
    rcases Decidable.em (nrm 100 ≤ nrm x3) with c1 | c1
    · have hf := ite_t c1 hf
      cases hf; exact frc_rf
    · have hf := ite_f c1 hf
      obtain ⟨g2, hf⟩ := gd_some hf
      obtain ⟨r4, μ3, e5, hf⟩ := bn_some hf
      have fq1 := (frc_X3_mayGo g2 e5)
      rcases Decidable.em (nrm r4 = 0) with c6 | c6
      · have hf := ite_t c6 hf
        cases hf; exact fq1
      · have hf := ite_f c6 hf
        obtain ⟨g7, hf⟩ := gd_some hf
        obtain ⟨r9, μ8, e10, hf⟩ := bn_some hf
        have fq2 := fq1.trans (frc_X3_wornFrom g7 e10)
        exact fq2.trans (ih _ _ _ _ _ _ _ t0 hf)
theorem frc_X11_toAndFro {x0 x1 : Int} {μ μ' : Mem} {r : Int} (t0 : isK x0 11) (hf : f_X11_toAndFro x0 x1 μ = some (r, μ')) : FrC μ μ' := by
  unfold f_X11_toAndFro at hf
  obtain ⟨g1, hf⟩ := gd_some hf
  obtain ⟨r3, μ2, e4, hf⟩ := bn_some hf
  have fq3 := (frc_X3_hasLane g1 e4)
  rcases Decidable.em (nrm r3 = 0) with c5 | c5
  · have hf := ite_t c5 hf
    cases hf; exact fq3
  · have hf := ite_f c5 hf
    obtain ⟨g6, hf⟩ := gd_some hf
    obtain ⟨v7, e8, hf⟩ := nm_some hf
    exact fq3.trans (frc_w_X11_toAndFro_29 FU _ _ _ _ _ _ _ t0 hf)
theorem frc_X11_cheapest {x0 x1 x2 : Int} {μ μ' : Mem} {r : Int} (t0 : isK x0 11) (hf : f_X11_cheapest x0 x1 x2 μ = some (r, μ')) : FrC μ μ' := by
  unfold f_X11_cheapest at hf
  obtain ⟨g1, hf⟩ := gd_some hf
  obtain ⟨r3, μ2, e4, hf⟩ := bn_some hf
  have fq1 := (frc_X3_hasPlace g1 e4)
  rcases Decidable.em (nrm r3 = 0) with c5 | c5
  · have hf := ite_t c5 hf
    cases hf; exact fq1
  · have hf := ite_f c5 hf
    rcases Decidable.em (nrm x2 < 0) with c6 | c6
    · have hf := ite_t c6 hf
      cases hf; exact fq1
    · have hf := ite_f c6 hf
      rcases Decidable.em (nrm x2 ≤ nrm 1) with c7 | c7
      · have hf := ite_t c7 hf
        obtain ⟨r9, μ8, e10, hf⟩ := bn_some hf
        have fq2 := fq1.trans (frc_X6_measureFillings (ow_11_12 t0) e10)
        obtain ⟨r12, μ11, e13, hf⟩ := bn_some hf
        have fq3 := fq2.trans (frc_X6_farFrom (ow_11_12 t0) e13)
        rcases Decidable.em (nrm r12 = nrm (-1)) with c14 | c14
        · have hf := ite_t c14 hf
          cases hf; exact fq3
        · have hf := ite_f c14 hf
          rcases Decidable.em (nrm x2 = 0) with c15 | c15
          · have hf := ite_t c15 hf
            obtain ⟨r20, μ19, e21, hf⟩ := bn_some hf
            have fq5 := fq3.trans (frc_X6_fillingsIn e21)
            cases hf; exact fq5
          · have hf := ite_f c15 hf
            obtain ⟨r17, μ16, e18, hf⟩ := bn_some hf
            have fq4 := fq3.trans (frc_X6_lanesIn e18)
            cases hf; exact fq4
      · have hf := ite_f c7 hf
        cases hf; exact fq1
theorem frc_X11_cheapBy {x0 x1 x2 : Int} {μ μ' : Mem} {r : Int} (t0 : isK x0 11) (hf : f_X11_cheapBy x0 x1 x2 μ = some (r, μ')) : FrC μ μ' := by
  unfold f_X11_cheapBy at hf
  obtain ⟨g1, hf⟩ := gd_some hf
  obtain ⟨r3, μ2, e4, hf⟩ := bn_some hf
  have fq1 := (frc_X3_hasPlace g1 e4)
  rcases Decidable.em (nrm r3 = 0) with c5 | c5
  · have hf := ite_t c5 hf
    cases hf; exact fq1
  · have hf := ite_f c5 hf
    rcases Decidable.em (0 ≤ nrm x2) with c6 | c6
    · have hf := ite_t c6 hf
      obtain ⟨r8, μ7, e9, hf⟩ := bn_some hf
      have fq2 := fq1.trans (frc_X6_measureFillings (ow_11_12 t0) e9)
      obtain ⟨r11, μ10, e12, hf⟩ := bn_some hf
      have fq3 := fq2.trans (frc_X6_laneOnWay (ow_11_12 t0) e12)
      cases hf; exact fq3
    · have hf := ite_f c6 hf
      cases hf; exact fq1
theorem frc_X11_joins {x0 x1 : Int} {μ μ' : Mem} {r : Int} (t0 : isK x0 11) (hf : f_X11_joins x0 x1 μ = some (r, μ')) : FrC μ μ' := by
  unfold f_X11_joins at hf
  rcases Decidable.em (nrm x1 < 0) with c1 | c1
  · have hf := ite_t c1 hf
    cases hf; exact frc_rf
  · have hf := ite_f c1 hf
    rcases Decidable.em (nrm x1 ≤ nrm 1) with c2 | c2
    · have hf := ite_t c2 hf
      obtain ⟨r4, μ3, e5, hf⟩ := bn_some hf
      have fq1 := (frc_X6_weighFillings (ow_11_12 t0) e5)
      obtain ⟨r7, μ6, e8, hf⟩ := bn_some hf
      have fq2 := fq1.trans (frc_X6_leastJoining (ow_11_12 t0) e8)
      rcases Decidable.em (nrm r7 = nrm (-1)) with c9 | c9
      · have hf := ite_t c9 hf
        cases hf; exact fq2
      · have hf := ite_f c9 hf
        rcases Decidable.em (nrm x1 = 0) with c10 | c10
        · have hf := ite_t c10 hf
          obtain ⟨r12, μ11, e13, hf⟩ := bn_some hf
          have fq3 := fq2.trans (frc_X6_weightOfAll (ow_11_12 t0) e13)
          obtain ⟨r15, μ14, e16, hf⟩ := bn_some hf
          have fq4 := fq3.trans (frc_X6_fillingsIn e16)
          cases hf; exact fq4
        · have hf := ite_f c10 hf
          cases hf; exact fq2
    · have hf := ite_f c2 hf
      cases hf; exact frc_rf
theorem frc_w_X11_leastShutting_92 (k13 : Int → Int → Int → Int → Int → Mem → Option (Int × Mem)) (h13 : ∀ (x0 x1 x2 x3 x4 : Int) (μ μ' : Mem) (r : Int), isK x0 11 → k13 x0 x1 x2 x3 x4 μ = some (r, μ') → FrC μ μ') {x0 x1 x2 x3 x4 : Int} {μ μ' : Mem} {r : Int} (t0 : isK x0 11) (hf : f_X11_leastShutting_j92 k13 x0 x1 x2 x3 x4 μ = some (r, μ')) : FrC μ μ' := by
  unfold f_X11_leastShutting_j92 at hf
  exact h13 _ _ _ _ _ _ _ _ t0 hf
theorem frc_w_X11_leastShutting_52 (k13 : Int → Int → Int → Int → Int → Mem → Option (Int × Mem)) (h13 : ∀ (x0 x1 x2 x3 x4 : Int) (μ μ' : Mem) (r : Int), isK x0 11 → k13 x0 x1 x2 x3 x4 μ = some (r, μ') → FrC μ μ') {x0 x1 x2 x3 x4 s0 : Int} {μ μ' : Mem} {r : Int} (t0 : isK x0 11) (hf : f_X11_leastShutting_j52 k13 x0 x1 x2 x3 x4 s0 μ = some (r, μ')) : FrC μ μ' := by
  unfold f_X11_leastShutting_j52 at hf
  rcases Decidable.em (nrm s0 = 0) with c1 | c1
  · have hf := ite_t c1 hf
    exact frc_w_X11_leastShutting_92 _ h13 t0 hf
  · have hf := ite_f c1 hf
    obtain ⟨g2, hf⟩ := gd_some hf
    obtain ⟨r4, μ3, e5, hf⟩ := bn_some hf
    have fq1 := (frc_X3_comingFrom g2 e5)
    rcases Decidable.em (nrm (jand (jshr r4 x1) 1) = 0) with c6 | c6
    · have hf := ite_t c6 hf
      exact fq1.trans (frc_w_X11_leastShutting_92 _ h13 t0 hf)
    · have hf := ite_f c6 hf
      exact fq1.trans (frc_w_X11_leastShutting_92 _ h13 t0 hf)
theorem frc_w_X11_leastShutting_47 (k13 : Int → Int → Int → Int → Int → Mem → Option (Int × Mem)) (h13 : ∀ (x0 x1 x2 x3 x4 : Int) (μ μ' : Mem) (r : Int), isK x0 11 → k13 x0 x1 x2 x3 x4 μ = some (r, μ') → FrC μ μ') {x0 x1 x2 x3 x4 : Int} {μ μ' : Mem} {r : Int} (t0 : isK x0 11) (hf : f_X11_leastShutting_j47 k13 x0 x1 x2 x3 x4 μ = some (r, μ')) : FrC μ μ' := by
  unfold f_X11_leastShutting_j47 at hf
  exact frc_w_X11_leastShutting_52 _ h13 t0 hf
theorem frc_w_X11_leastShutting_13 : ∀ (n : Nat) (x0 x1 x2 x3 x4 : Int) (μ μ' : Mem) (r : Int), isK x0 11 → f_X11_leastShutting_w13 n x0 x1 x2 x3 x4 μ = some (r, μ') → FrC μ μ' := by
  intro n
  induction n with
  | zero => intro x0 x1 x2 x3 x4 μ μ' r t0 hf; cases hf
  | succ n ih =>
    intro x0 x1 x2 x3 x4 μ μ' r t0 hf
    rw [f_X11_leastShutting_w13.eq_2] at hf
    obtain ⟨g1, hf⟩ := gd_some hf
    rcases Decidable.em (nrm (jshl 1 (μ (μ (x0 + 58) 0) 1)) ≤ nrm x4) with c2 | c2
    · have hf := ite_t c2 hf
      cases hf; exact frc_rf
    · have hf := ite_f c2 hf
      rcases Decidable.em (nrm x3 = nrm (-1)) with c3 | c3
      · have hf := ite_t c3 hf
        exact frc_w_X11_leastShutting_47 _ ih t0 hf
      · have hf := ite_f c3 hf
        obtain ⟨r5, μ4, e6, hf⟩ := bn_some hf
        have fq2 := (frc_J6_bitCount_0f7a4 e6)
        obtain ⟨r8, μ7, e9, hf⟩ := bn_some hf
        have fq3 := fq2.trans (frc_J6_bitCount_0f7a4 e9)
        rcases Decidable.em (nrm r8 ≤ nrm r5) with c10 | c10
        · have hf := ite_t c10 hf
          exact fq3.trans (frc_w_X11_leastShutting_52 _ ih t0 hf)
        · have hf := ite_f c10 hf
          exact fq3.trans (frc_w_X11_leastShutting_47 _ ih t0 hf)
theorem frc_X11_leastShutting {x0 x1 : Int} {μ μ' : Mem} {r : Int} (t0 : isK x0 11) (hf : f_X11_leastShutting x0 x1 μ = some (r, μ')) : FrC μ μ' := by
  unfold f_X11_leastShutting at hf
  obtain ⟨r2, μ1, e3, hf⟩ := bn_some hf
  have fq4 := (frc_X0_openLanes (ow_11_6 t0) e3)
  exact fq4.trans (frc_w_X11_leastShutting_13 FU _ _ _ _ _ _ _ _ t0 hf)
theorem frc_X11_shuts {x0 x1 x2 : Int} {μ μ' : Mem} {r : Int} (t0 : isK x0 11) (hf : f_X11_shuts x0 x1 x2 μ = some (r, μ')) : FrC μ μ' := by
  unfold f_X11_shuts at hf
  obtain ⟨g1, hf⟩ := gd_some hf
  obtain ⟨r3, μ2, e4, hf⟩ := bn_some hf
  have fq1 := (frc_X3_hasPlace g1 e4)
  rcases Decidable.em (nrm r3 = 0) with c5 | c5
  · have hf := ite_t c5 hf
    cases hf; exact fq1
  · have hf := ite_f c5 hf
    rcases Decidable.em (nrm x2 < 0) with c6 | c6
    · have hf := ite_t c6 hf
      cases hf; exact fq1
    · have hf := ite_f c6 hf
      rcases Decidable.em (nrm x2 ≤ nrm 1) with c7 | c7
      · have hf := ite_t c7 hf
        obtain ⟨r9, μ8, e10, hf⟩ := bn_some hf
        have fq2 := fq1.trans (frc_X11_leastShutting t0 e10)
        rcases Decidable.em (nrm r9 = nrm (-1)) with c11 | c11
        · have hf := ite_t c11 hf
          cases hf; exact fq2
        · have hf := ite_f c11 hf
          rcases Decidable.em (nrm x2 = 0) with c12 | c12
          · have hf := ite_t c12 hf
            obtain ⟨r14, μ13, e15, hf⟩ := bn_some hf
            have fq3 := fq2.trans (frc_J6_bitCount_0f7a4 e15)
            cases hf; exact fq3
          · have hf := ite_f c12 hf
            cases hf; exact fq2
      · have hf := ite_f c7 hf
        cases hf; exact fq1
theorem frc_w_X11_seasonsOfTurning_10 : ∀ (n : Nat) (x0 x1 x2 : Int) (μ μ' : Mem) (r : Int), isK x0 11 → f_X11_seasonsOfTurning_w10 n x0 x1 x2 μ = some (r, μ') → FrC μ μ' := by
  intro n
  induction n with
  | zero => intro x0 x1 x2 μ μ' r t0 hf; cases hf
  | succ n ih =>
    intro x0 x1 x2 μ μ' r t0 hf
    rw [f_X11_seasonsOfTurning_w10.eq_2] at hf
    rcases Decidable.em (nrm 8 < nrm x2) with c1 | c1
    · have hf := ite_t c1 hf
      cases hf; exact frc_rf
    · have hf := ite_f c1 hf
      obtain ⟨g2, hf⟩ := gd_some hf
      obtain ⟨r4, μ3, e5, hf⟩ := bn_some hf
      have fq1 := (frc_X3_backBehindSeason g2 e5)
      rcases Decidable.em (nrm r4 = nrm x1) with c6 | c6
      · have hf := ite_t c6 hf
        cases hf; exact fq1
      · have hf := ite_f c6 hf
        exact fq1.trans (ih _ _ _ _ _ _ t0 hf)
theorem frc_X11_seasonsOfTurning {x0 : Int} {μ μ' : Mem} {r : Int} (t0 : isK x0 11) (hf : f_X11_seasonsOfTurning x0 μ = some (r, μ')) : FrC μ μ' := by
  unfold f_X11_seasonsOfTurning at hf
  obtain ⟨v1, e2, hf⟩ := nm_some hf
  exact frc_w_X11_seasonsOfTurning_10 FU _ _ _ _ _ _ t0 hf
theorem frc_X11_turning {x0 x1 : Int} {μ μ' : Mem} {r : Int} (t0 : isK x0 11) (hf : f_X11_turning x0 x1 μ = some (r, μ')) : FrC μ μ' := by
  unfold f_X11_turning at hf
  rcases Decidable.em (nrm x1 < 0) with c1 | c1
  · have hf := ite_t c1 hf
    cases hf; exact frc_rf
  · have hf := ite_f c1 hf
    rcases Decidable.em (nrm x1 ≤ nrm 1) with c2 | c2
    · have hf := ite_t c2 hf
      rcases Decidable.em (nrm x1 = 0) with c3 | c3
      · have hf := ite_t c3 hf
        obtain ⟨g7, hf⟩ := gd_some hf
        obtain ⟨r9, μ8, e10, hf⟩ := bn_some hf
        have fq2 := (frc_X3_backInTheEnd g7 e10)
        cases hf; exact fq2
      · have hf := ite_f c3 hf
        obtain ⟨r5, μ4, e6, hf⟩ := bn_some hf
        have fq1 := (frc_X11_seasonsOfTurning t0 e6)
        cases hf; exact fq1
    · have hf := ite_f c2 hf
      cases hf; exact frc_rf
theorem frc_w_X11_when_47 : ∀ (n : Nat) (x0 x1 x2 x3 : Int) (μ μ' : Mem) (r : Int), isK x0 11 → f_X11_when_w47 n x0 x1 x2 x3 μ = some (r, μ') → FrC μ μ' := by
  intro n
  induction n with
  | zero => intro x0 x1 x2 x3 μ μ' r t0 hf; cases hf
  | succ n ih =>
    intro x0 x1 x2 x3 μ μ' r t0 hf
    rw [f_X11_when_w47.eq_2] at hf
    rcases Decidable.em (nrm 8 < nrm x3) with c1 | c1
    · have hf := ite_t c1 hf
      cases hf; exact frc_rf
    · have hf := ite_f c1 hf
      obtain ⟨g2, hf⟩ := gd_some hf
      obtain ⟨r4, μ3, e5, hf⟩ := bn_some hf
      have fq1 := (frc_X3_backBehindSeason g2 e5)
      rcases Decidable.em (nrm (jand (jshr r4 x1) 1) = 0) with c6 | c6
      · have hf := ite_t c6 hf
        exact fq1.trans (ih _ _ _ _ _ _ _ t0 hf)
      · have hf := ite_f c6 hf
        cases hf; exact fq1
theorem frc_X11_when {x0 x1 : Int} {μ μ' : Mem} {r : Int} (t0 : isK x0 11) (hf : f_X11_when x0 x1 μ = some (r, μ')) : FrC μ μ' := by
  unfold f_X11_when at hf
  rcases Decidable.em (nrm x1 < 0) with c1 | c1
  · have hf := ite_t c1 hf
    cases hf; exact frc_rf
  · have hf := ite_f c1 hf
    obtain ⟨g2, hf⟩ := gd_some hf
    rcases Decidable.em (nrm x1 < nrm (μ (μ (x0 + 58) 0) 2)) with c3 | c3
    · have hf := ite_t c3 hf
      rcases Decidable.em (nrm (jand (jshr (μ (x0 + 58) 3) x1) 1) = 0) with c4 | c4
      · have hf := ite_t c4 hf
        obtain ⟨v5, e6, hf⟩ := nm_some hf
        exact frc_w_X11_when_47 FU _ _ _ _ _ _ _ t0 hf
      · have hf := ite_f c4 hf
        cases hf; exact frc_rf
    · have hf := ite_f c3 hf
      cases hf; exact frc_rf
theorem frc_w_X11_leastStarting_94 (k29 : Int → Int → Int → Int → Mem → Option (Int × Mem)) (h29 : ∀ (x0 x1 x2 x3 : Int) (μ μ' : Mem) (r : Int), isK x0 11 → k29 x0 x1 x2 x3 μ = some (r, μ') → FrC μ μ') {x0 x1 x2 x3 : Int} {μ μ' : Mem} {r : Int} (t0 : isK x0 11) (hf : f_X11_leastStarting_j94 k29 x0 x1 x2 x3 μ = some (r, μ')) : FrC μ μ' := by
  unfold f_X11_leastStarting_j94 at hf
  exact h29 _ _ _ _ _ _ _ t0 hf
theorem frc_w_X11_leastStarting_62 (k29 : Int → Int → Int → Int → Mem → Option (Int × Mem)) (h29 : ∀ (x0 x1 x2 x3 : Int) (μ μ' : Mem) (r : Int), isK x0 11 → k29 x0 x1 x2 x3 μ = some (r, μ') → FrC μ μ') {x0 x1 x2 x3 s0 : Int} {μ μ' : Mem} {r : Int} (t0 : isK x0 11) (hf : f_X11_leastStarting_j62 k29 x0 x1 x2 x3 s0 μ = some (r, μ')) : FrC μ μ' := by
  unfold f_X11_leastStarting_j62 at hf
  rcases Decidable.em (nrm s0 = 0) with c1 | c1
  · have hf := ite_t c1 hf
    exact frc_w_X11_leastStarting_94 _ h29 t0 hf
  · have hf := ite_f c1 hf
    obtain ⟨g2, hf⟩ := gd_some hf
    obtain ⟨r4, μ3, e5, hf⟩ := bn_some hf
    have fq1 := (frc_X3_backInTheEnd g2 e5)
    rcases Decidable.em (nrm r4 = nrm x1) with c6 | c6
    · have hf := ite_t c6 hf
      exact fq1.trans (frc_w_X11_leastStarting_94 _ h29 t0 hf)
    · have hf := ite_f c6 hf
      exact fq1.trans (frc_w_X11_leastStarting_94 _ h29 t0 hf)
theorem frc_w_X11_leastStarting_61 (k29 : Int → Int → Int → Int → Mem → Option (Int × Mem)) (h29 : ∀ (x0 x1 x2 x3 : Int) (μ μ' : Mem) (r : Int), isK x0 11 → k29 x0 x1 x2 x3 μ = some (r, μ') → FrC μ μ') {x0 x1 x2 x3 : Int} {μ μ' : Mem} {r : Int} (t0 : isK x0 11) (hf : f_X11_leastStarting_j61 k29 x0 x1 x2 x3 μ = some (r, μ')) : FrC μ μ' := by
  unfold f_X11_leastStarting_j61 at hf
  exact frc_w_X11_leastStarting_62 _ h29 t0 hf
theorem frc_w_X11_leastStarting_29 : ∀ (n : Nat) (x0 x1 x2 x3 : Int) (μ μ' : Mem) (r : Int), isK x0 11 → f_X11_leastStarting_w29 n x0 x1 x2 x3 μ = some (r, μ') → FrC μ μ' := by
  intro n
  induction n with
  | zero => intro x0 x1 x2 x3 μ μ' r t0 hf; cases hf
  | succ n ih =>
    intro x0 x1 x2 x3 μ μ' r t0 hf
    rw [f_X11_leastStarting_w29.eq_2] at hf
    rcases Decidable.em (nrm x1 < nrm x3) with c1 | c1
    · have hf := ite_t c1 hf
      cases hf; exact frc_rf
    · have hf := ite_f c1 hf
      rcases Decidable.em (nrm (jand x3 (μ (x0 + 58) 3)) = 0) with c2 | c2
      · have hf := ite_t c2 hf
        obtain ⟨r4, μ3, e5, hf⟩ := bn_some hf
        have fq2 := (frc_J6_bitCount_0f7a4 e5)
        obtain ⟨r7, μ6, e8, hf⟩ := bn_some hf
        have fq3 := fq2.trans (frc_J6_bitCount_0f7a4 e8)
        rcases Decidable.em (nrm r7 ≤ nrm r4) with c9 | c9
        · have hf := ite_t c9 hf
          exact fq3.trans (frc_w_X11_leastStarting_61 _ ih t0 hf)
        · have hf := ite_f c9 hf
          exact fq3.trans (frc_w_X11_leastStarting_62 _ ih t0 hf)
      · have hf := ite_f c2 hf
        exact frc_w_X11_leastStarting_61 _ ih t0 hf
theorem frc_X11_leastStarting {x0 : Int} {μ μ' : Mem} {r : Int} (t0 : isK x0 11) (hf : f_X11_leastStarting x0 μ = some (r, μ')) : FrC μ μ' := by
  unfold f_X11_leastStarting at hf
  obtain ⟨g1, hf⟩ := gd_some hf
  obtain ⟨v2, e3, hf⟩ := nm_some hf
  obtain ⟨v4, e5, hf⟩ := nm_some hf
  exact frc_w_X11_leastStarting_29 FU _ _ _ _ _ _ _ t0 hf
theorem frc_X11_starts {x0 x1 : Int} {μ μ' : Mem} {r : Int} (t0 : isK x0 11) (hf : f_X11_starts x0 x1 μ = some (r, μ')) : FrC μ μ' := by
  unfold f_X11_starts at hf
  rcases Decidable.em (nrm x1 < 0) with c1 | c1
  · have hf := ite_t c1 hf
    cases hf; exact frc_rf
  · have hf := ite_f c1 hf
    rcases Decidable.em (nrm x1 ≤ nrm 1) with c2 | c2
    · have hf := ite_t c2 hf
      obtain ⟨r4, μ3, e5, hf⟩ := bn_some hf
      have fq1 := (frc_X11_leastStarting t0 e5)
      rcases Decidable.em (nrm x1 = 0) with c6 | c6
      · have hf := ite_t c6 hf
        obtain ⟨r8, μ7, e9, hf⟩ := bn_some hf
        have fq2 := fq1.trans (frc_J6_bitCount_0f7a4 e9)
        cases hf; exact fq2
      · have hf := ite_f c6 hf
        cases hf; exact fq1
    · have hf := ite_f c2 hf
      cases hf; exact frc_rf
theorem frc_w_X11_whyNotWorn_39 : ∀ (n : Nat) (x0 x1 x2 : Int) (μ μ' : Mem) (r : Int), isK x0 11 → f_X11_whyNotWorn_w39 n x0 x1 x2 μ = some (r, μ') → FrC μ μ' := by
  intro n
  induction n with
  | zero => intro x0 x1 x2 μ μ' r t0 hf; cases hf
  | succ n ih =>
    intro x0 x1 x2 μ μ' r t0 hf
    rw [f_X11_whyNotWorn_w39.eq_2] at hf
    obtain ⟨g1, hf⟩ := gd_some hf
    rcases Decidable.em (nrm (μ x1 1) ≤ nrm x2) with c2 | c2
    · have hf := ite_t c2 hf
      cases hf; exact frc_rf
    · have hf := ite_f c2 hf
      obtain ⟨r4, μ3, e5, hf⟩ := bn_some hf
      have fq1 := (frc_X10_numberAt g1 e5)
      rcases Decidable.em (nrm (kcmp r4 0) < 0) with c6 | c6
      · have hf := ite_t c6 hf
        cases hf; exact fq1
      · have hf := ite_f c6 hf
        obtain ⟨g7, hf⟩ := gd_some hf
        rcases Decidable.em (0 ≤ nrm (kcmp (kdiv r4 10) (nrm (μ3 (μ3 (x0 + 58) 0) 1)))) with c8 | c8
        · have hf := ite_t c8 hf
          cases hf; exact fq1
        · have hf := ite_f c8 hf
          rcases Decidable.em (nrm (kcmp (krem r4 10) 6) ≤ 0) with c9 | c9
          · have hf := ite_t c9 hf
            exact fq1.trans (ih _ _ _ _ _ _ t0 hf)
          · have hf := ite_f c9 hf
            cases hf; exact fq1
theorem frc_X11_whyNotWorn {x0 x1 : Int} {μ μ' : Mem} {r : Int} (t0 : isK x0 11) (hf : f_X11_whyNotWorn x0 x1 μ = some (r, μ')) : FrC μ μ' := by
  unfold f_X11_whyNotWorn at hf
  rcases Decidable.em (x1 < 0) with c1 | c1
  · have hf := ite_t c1 hf
    cases hf; exact frc_rf
  · have hf := ite_f c1 hf
    obtain ⟨g2, hf⟩ := gd_some hf
    rcases Decidable.em (nrm (μ x1 0) = 0) with c3 | c3
    · have hf := ite_t c3 hf
      rcases Decidable.em (nrm (μ x1 1) < nrm 1) with c4 | c4
      · have hf := ite_t c4 hf
        cases hf; exact frc_rf
      · have hf := ite_f c4 hf
        rcases Decidable.em (nrm (μ x1 1) ≤ nrm 8) with c5 | c5
        · have hf := ite_t c5 hf
          exact frc_w_X11_whyNotWorn_39 FU _ _ _ _ _ _ t0 hf
        · have hf := ite_f c5 hf
          cases hf; exact frc_rf
    · have hf := ite_f c3 hf
      cases hf; exact frc_rf
theorem frc_X11_wornByRain {x0 x1 x2 : Int} {μ μ' : Mem} {r : Int} (t0 : isK x0 11) (hf : f_X11_wornByRain x0 x1 x2 μ = some (r, μ')) : FrC μ μ' := by
  unfold f_X11_wornByRain at hf
  obtain ⟨r2, μ1, e3, hf⟩ := bn_some hf
  have fq1 := (frc_X0_depthOf (ow_11_6 t0) e3)
  obtain ⟨g4, hf⟩ := gd_some hf
  obtain ⟨r6, μ5, e7, hf⟩ := bn_some hf
  have fq2 := fq1.trans (frc_X3_wornFrom g4 e7)
  cases hf; exact fq2
theorem frc_w_X11_rainsBy_85 (k4 : Int → Int → Int → Int → Mem → Option (Int × Mem)) (h4 : ∀ (x0 x1 x2 x3 : Int) (μ μ' : Mem) (r : Int), isK x0 11 → k4 x0 x1 x2 x3 μ = some (r, μ') → FrC μ μ') {x0 x1 x2 x3 : Int} {μ μ' : Mem} {r : Int} (t0 : isK x0 11) (hf : f_X11_rainsBy_j85 k4 x0 x1 x2 x3 μ = some (r, μ')) : FrC μ μ' := by
  unfold f_X11_rainsBy_j85 at hf
  exact h4 _ _ _ _ _ _ _ t0 hf
theorem frc_w_X11_rainsBy_74 (k4 : Int → Int → Int → Int → Mem → Option (Int × Mem)) (h4 : ∀ (x0 x1 x2 x3 : Int) (μ μ' : Mem) (r : Int), isK x0 11 → k4 x0 x1 x2 x3 μ = some (r, μ') → FrC μ μ') {x0 x1 x2 x3 x4 : Int} {μ μ' : Mem} {r : Int} (t0 : isK x0 11) (hf : f_X11_rainsBy_j74 k4 x0 x1 x2 x3 x4 μ = some (r, μ')) : FrC μ μ' := by
  unfold f_X11_rainsBy_j74 at hf
  rcases Decidable.em (nrm x4 = 0) with c1 | c1
  · have hf := ite_t c1 hf
    exact frc_w_X11_rainsBy_85 _ h4 t0 hf
  · have hf := ite_f c1 hf
    obtain ⟨v2, e3, hf⟩ := nm_some hf
    exact frc_w_X11_rainsBy_85 _ h4 t0 hf
theorem frc_w_X11_rainsBy_66 (k4 : Int → Int → Int → Int → Mem → Option (Int × Mem)) (h4 : ∀ (x0 x1 x2 x3 : Int) (μ μ' : Mem) (r : Int), isK x0 11 → k4 x0 x1 x2 x3 μ = some (r, μ') → FrC μ μ') (k16 : Int → Int → Int → Int → Int → Int → Mem → Option (Int × Mem)) (h16 : ∀ (x0 x1 x2 x3 x4 x5 : Int) (μ μ' : Mem) (r : Int), isK x0 11 → k16 x0 x1 x2 x3 x4 x5 μ = some (r, μ') → FrC μ μ') {x0 x1 x2 x3 x5 s0 : Int} {μ μ' : Mem} {r : Int} (t0 : isK x0 11) (hf : f_X11_rainsBy_j66 k4 k16 x0 x1 x2 x3 x5 s0 μ = some (r, μ')) : FrC μ μ' := by
  unfold f_X11_rainsBy_j66 at hf
  exact h16 _ _ _ _ _ _ _ _ _ t0 hf
theorem frc_w_X11_rainsBy_16 (k4 : Int → Int → Int → Int → Mem → Option (Int × Mem)) (h4 : ∀ (x0 x1 x2 x3 : Int) (μ μ' : Mem) (r : Int), isK x0 11 → k4 x0 x1 x2 x3 μ = some (r, μ') → FrC μ μ') : ∀ (n : Nat) (x0 x1 x2 x3 x4 x5 : Int) (μ μ' : Mem) (r : Int), isK x0 11 → f_X11_rainsBy_w16 k4 n x0 x1 x2 x3 x4 x5 μ = some (r, μ') → FrC μ μ' := by
  intro n
  induction n with
  | zero => intro x0 x1 x2 x3 x4 x5 μ μ' r t0 hf; cases hf
  | succ n ih =>
    intro x0 x1 x2 x3 x4 x5 μ μ' r t0 hf
    rw [f_X11_rainsBy_w16.eq_2] at hf
    obtain ⟨g1, hf⟩ := gd_some hf
    rcases Decidable.em (nrm (μ x1 1) ≤ nrm x5) with c2 | c2
    · have hf := ite_t c2 hf
      exact frc_w_X11_rainsBy_74 _ h4 t0 hf
    · have hf := ite_f c2 hf
      rcases Decidable.em (nrm x4 = 0) with c3 | c3
      · have hf := ite_t c3 hf
        exact frc_w_X11_rainsBy_74 _ h4 t0 hf
      · have hf := ite_f c3 hf
        obtain ⟨r5, μ4, e6, hf⟩ := bn_some hf
        have fq1 := (frc_X10_numberAt g1 e6)
        obtain ⟨r8, μ7, e9, hf⟩ := bn_some hf
        have fq2 := fq1.trans (frc_X11_wornByRain t0 e9)
        rcases Decidable.em (nrm (kcmp (nrm r8) (krem r5 10)) = 0) with c10 | c10
        · have hf := ite_t c10 hf
          exact fq2.trans (frc_w_X11_rainsBy_66 _ h4 _ ih t0 hf)
        · have hf := ite_f c10 hf
          exact fq2.trans (frc_w_X11_rainsBy_66 _ h4 _ ih t0 hf)
theorem frc_w_X11_rainsBy_4 : ∀ (n : Nat) (x0 x1 x2 x3 : Int) (μ μ' : Mem) (r : Int), isK x0 11 → f_X11_rainsBy_w4 n x0 x1 x2 x3 μ = some (r, μ') → FrC μ μ' := by
  intro n
  induction n with
  | zero => intro x0 x1 x2 x3 μ μ' r t0 hf; cases hf
  | succ n ih =>
    intro x0 x1 x2 x3 μ μ' r t0 hf
    rw [f_X11_rainsBy_w4.eq_2] at hf
    rcases Decidable.em (nrm 9 < nrm x3) with c1 | c1
    · have hf := ite_t c1 hf
      cases hf; exact frc_rf
    · have hf := ite_f c1 hf
      exact frc_w_X11_rainsBy_16 _ ih FU _ _ _ _ _ _ _ _ _ t0 hf
theorem frc_X11_rainsBy {x0 x1 : Int} {μ μ' : Mem} {r : Int} (t0 : isK x0 11) (hf : f_X11_rainsBy x0 x1 μ = some (r, μ')) : FrC μ μ' := by
  unfold f_X11_rainsBy at hf
  exact frc_w_X11_rainsBy_4 FU _ _ _ _ _ _ _ t0 hf
theorem frc_X11_rains {x0 x1 : Int} {μ μ' : Mem} {r : Int} (t0 : isK x0 11) (hf : f_X11_rains x0 x1 μ = some (r, μ')) : FrC μ μ' := by
  unfold f_X11_rains at hf
  obtain ⟨r2, μ1, e3, hf⟩ := bn_some hf
  have fq1 := (frc_X11_trayOf t0 e3)
  obtain ⟨r5, μ4, e6, hf⟩ := bn_some hf
  have fq2 := fq1.trans (frc_X11_whyNotWorn t0 e6)
  rcases Decidable.em (nrm r5 = 0) with c7 | c7
  · have hf := ite_t c7 hf
    obtain ⟨r9, μ8, e10, hf⟩ := bn_some hf
    have fq3 := fq2.trans (frc_X11_rainsBy t0 e10)
    cases hf; exact fq3
  · have hf := ite_f c7 hf
    cases hf; exact fq2
theorem frc_w_X11_mostAlike_47 : ∀ (n : Nat) (x3 x4 x5 : Int) (μ μ' : Mem) (r : Int), f_X11_mostAlike_w47 n x3 x4 x5 μ = some (r, μ') → FrC μ μ' := by
  intro n
  induction n with
  | zero => intro x3 x4 x5 μ μ' r hf; cases hf
  | succ n ih =>
    intro x3 x4 x5 μ μ' r hf
    rw [f_X11_mostAlike_w47.eq_2] at hf
    rcases Decidable.em (nrm 6 < nrm x5) with c1 | c1
    · have hf := ite_t c1 hf
      cases hf; exact frc_rf
    · have hf := ite_f c1 hf
      obtain ⟨r3, μ2, e4, hf⟩ := bn_some hf
      have fq1 := (frc_J9_max_7cf53 e4)
      exact fq1.trans (ih _ _ _ _ _ _ hf)
theorem frc_w_X11_mostAlike_35 (k5 : Int → Int → Int → Int → Int → Mem → Option (Int × Mem)) (h5 : ∀ (x0 x1 x2 x3 x4 : Int) (μ μ' : Mem) (r : Int), isK x0 11 → k5 x0 x1 x2 x3 x4 μ = some (r, μ') → FrC μ μ') {x0 x1 x2 x3 x4 : Int} {μ μ' : Mem} {r : Int} (t0 : isK x0 11) (hf : f_X11_mostAlike_j35 k5 x0 x1 x2 x3 x4 μ = some (r, μ')) : FrC μ μ' := by
  unfold f_X11_mostAlike_j35 at hf
  exact h5 _ _ _ _ _ _ _ _ t0 hf
theorem frc_w_X11_mostAlike_5 : ∀ (n : Nat) (x0 x1 x2 x3 x4 : Int) (μ μ' : Mem) (r : Int), isK x0 11 → f_X11_mostAlike_w5 n x0 x1 x2 x3 x4 μ = some (r, μ') → FrC μ μ' := by
  intro n
  induction n with
  | zero => intro x0 x1 x2 x3 x4 μ μ' r t0 hf; cases hf
  | succ n ih =>
    intro x0 x1 x2 x3 x4 μ μ' r t0 hf
    rw [f_X11_mostAlike_w5.eq_2] at hf
    rcases Decidable.em (nrm 9 < nrm x4) with c1 | c1
    · have hf := ite_t c1 hf
      exact frc_w_X11_mostAlike_47 FU _ _ _ _ _ _ hf
    · have hf := ite_f c1 hf
      rcases Decidable.em (nrm (jand (jshr x2 x4) 1) = 0) with c2 | c2
      · have hf := ite_t c2 hf
        exact frc_w_X11_mostAlike_35 _ ih t0 hf
      · have hf := ite_f c2 hf
        obtain ⟨r4, μ3, e5, hf⟩ := bn_some hf
        have fq2 := (frc_X11_wornByRain t0 e5)
        obtain ⟨v6, e7, hf⟩ := nm_some hf
        exact fq2.trans (frc_w_X11_mostAlike_35 _ ih t0 hf)
theorem frc_X11_mostAlike {x0 x1 x2 : Int} {μ μ' : Mem} {r : Int} (t0 : isK x0 11) (hf : f_X11_mostAlike x0 x1 x2 μ = some (r, μ')) : FrC μ μ' := by
  unfold f_X11_mostAlike at hf
  exact frc_w_X11_mostAlike_5 FU _ _ _ _ _ _ _ _ t0 hf
theorem frc_w_X11_attempt_85 (k34 : Int → Int → Int → Int → Int → Mem → Option (Int × Mem)) (h34 : ∀ (x0 x4 x5 x6 x7 : Int) (μ μ' : Mem) (r : Int), isK x0 11 → k34 x0 x4 x5 x6 x7 μ = some (r, μ') → FrC μ μ') {x0 x4 x5 x6 x7 : Int} {μ μ' : Mem} {r : Int} (t0 : isK x0 11) (hf : f_X11_attempt_j85 k34 x0 x4 x5 x6 x7 μ = some (r, μ')) : FrC μ μ' := by
  unfold f_X11_attempt_j85 at hf
  exact h34 _ _ _ _ _ _ _ _ t0 hf
theorem frc_w_X11_attempt_77 (k34 : Int → Int → Int → Int → Int → Mem → Option (Int × Mem)) (h34 : ∀ (x0 x4 x5 x6 x7 : Int) (μ μ' : Mem) (r : Int), isK x0 11 → k34 x0 x4 x5 x6 x7 μ = some (r, μ') → FrC μ μ') {x0 x4 x7 x8 : Int} {μ μ' : Mem} {r : Int} (t0 : isK x0 11) (hf : f_X11_attempt_j77 k34 x0 x4 x7 x8 μ = some (r, μ')) : FrC μ μ' := by
  unfold f_X11_attempt_j77 at hf
  exact frc_w_X11_attempt_85 _ h34 t0 hf
theorem frc_w_X11_attempt_34 : ∀ (n : Nat) (x0 x4 x5 x6 x7 : Int) (μ μ' : Mem) (r : Int), isK x0 11 → f_X11_attempt_w34 n x0 x4 x5 x6 x7 μ = some (r, μ') → FrC μ μ' := by
  intro n
  induction n with
  | zero => intro x0 x4 x5 x6 x7 μ μ' r t0 hf; cases hf
  | succ n ih =>
    intro x0 x4 x5 x6 x7 μ μ' r t0 hf
    rw [f_X11_attempt_w34.eq_2] at hf
    rcases Decidable.em (nrm x4 = 0) with c1 | c1
    · have hf := ite_t c1 hf
      cases hf; exact frc_rf
    · have hf := ite_f c1 hf
      obtain ⟨g2, hf⟩ := gd_some hf
      rcases Decidable.em (nrm (μ (μ (x0 + 58) 0) 1) ≤ nrm x7) with c3 | c3
      · have hf := ite_t c3 hf
        cases hf; exact frc_rf
      · have hf := ite_f c3 hf
        obtain ⟨r5, μ4, e6, hf⟩ := bn_some hf
        have fq1 := (frc_X11_mostAlike t0 e6)
        rcases Decidable.em (nrm x5 = nrm (-1)) with c7 | c7
        · have hf := ite_t c7 hf
          exact fq1.trans (frc_w_X11_attempt_77 _ ih t0 hf)
        · have hf := ite_f c7 hf
          rcases Decidable.em (nrm x6 ≤ nrm r5) with c8 | c8
          · have hf := ite_t c8 hf
            exact fq1.trans (frc_w_X11_attempt_85 _ ih t0 hf)
          · have hf := ite_f c8 hf
            exact fq1.trans (frc_w_X11_attempt_77 _ ih t0 hf)
theorem frc_X11_attempt {x0 x1 : Int} {μ μ' : Mem} {r : Int} (t0 : isK x0 11) (hf : f_X11_attempt x0 x1 μ = some (r, μ')) : FrC μ μ' := by
  unfold f_X11_attempt at hf
  obtain ⟨r2, μ1, e3, hf⟩ := bn_some hf
  have fq2 := (frc_X11_trayOf t0 e3)
  obtain ⟨r5, μ4, e6, hf⟩ := bn_some hf
  have fq3 := fq2.trans (frc_X11_whyNotWorn t0 e6)
  rcases Decidable.em (nrm r5 = 0) with c7 | c7
  · have hf := ite_t c7 hf
    obtain ⟨r9, μ8, e10, hf⟩ := bn_some hf
    have fq4 := fq3.trans (frc_X11_rainsBy t0 e10)
    exact fq4.trans (frc_w_X11_attempt_34 FU _ _ _ _ _ _ _ _ t0 hf)
  · have hf := ite_f c7 hf
    cases hf; exact fq3
theorem frc_X11_wins {x0 : Int} {μ μ' : Mem} {r : Int} (t0 : isK x0 11) (hf : f_X11_wins x0 μ = some (r, μ')) : FrC μ μ' := by
  unfold f_X11_wins at hf
  obtain ⟨r2, μ1, e3, hf⟩ := bn_some hf
  have fq1 := (frc_X1_firstWinning (ow_11_14 t0) e3)
  rcases Decidable.em (nrm r2 = nrm (-1)) with c4 | c4
  · have hf := ite_t c4 hf
    cases hf; exact fq1
  · have hf := ite_f c4 hf
    cases hf; exact fq1
theorem frc_X11_best {x0 : Int} {μ μ' : Mem} {r : Int} (t0 : isK x0 11) (hf : f_X11_best x0 μ = some (r, μ')) : FrC μ μ' := by
  unfold f_X11_best at hf
  obtain ⟨r2, μ1, e3, hf⟩ := bn_some hf
  have fq1 := (frc_X1_firstWinning (ow_11_14 t0) e3)
  cases hf; exact fq1
theorem frc_X11_numbers {x0 x1 x2 x3 : Int} {μ μ' : Mem} {r : Int} (t0 : isK x0 11) (hf : f_X11_numbers x0 x1 x2 x3 μ = some (r, μ')) : FrC μ μ' := by
  unfold f_X11_numbers at hf
  obtain ⟨r2, μ1, e3, hf⟩ := bn_some hf
  have fq1 := (frc_X11_trayOf t0 e3)
  rcases Decidable.em (r2 < 0) with c4 | c4
  · have hf := ite_t c4 hf
    cases hf; exact fq1
  · have hf := ite_f c4 hf
    rcases Decidable.em (nrm x2 < 0) with c5 | c5
    · have hf := ite_t c5 hf
      cases hf; exact fq1
    · have hf := ite_f c5 hf
      rcases Decidable.em (nrm x2 ≤ nrm 3) with c6 | c6
      · have hf := ite_t c6 hf
        rcases Decidable.em (nrm x3 < 0) with c7 | c7
        · have hf := ite_t c7 hf
          cases hf; exact fq1
        · have hf := ite_f c7 hf
          rcases Decidable.em (nrm x3 ≤ nrm 40) with c8 | c8
          · have hf := ite_t c8 hf
            obtain ⟨g9, hf⟩ := gd_some hf
            obtain ⟨r11, μ10, e12, hf⟩ := bn_some hf
            have fq2 := fq1.trans (frc_X10_makeNew g9 e12)
            cases hf; exact fq2
          · have hf := ite_f c8 hf
            cases hf; exact fq1
      · have hf := ite_f c6 hf
        cases hf; exact fq1
theorem frc_X11_write {x0 x1 x2 x3 : Int} {μ μ' : Mem} {r : Int} (t0 : isK x0 11) (hf : f_X11_write x0 x1 x2 x3 μ = some (r, μ')) : FrC μ μ' := by
  unfold f_X11_write at hf
  obtain ⟨r2, μ1, e3, hf⟩ := bn_some hf
  have fq1 := (frc_X11_trayOf t0 e3)
  rcases Decidable.em (r2 < 0) with c4 | c4
  · have hf := ite_t c4 hf
    cases hf; exact fq1
  · have hf := ite_f c4 hf
    obtain ⟨g5, hf⟩ := gd_some hf
    rcases Decidable.em (nrm (μ1 r2 0) = 0) with c6 | c6
    · have hf := ite_t c6 hf
      rcases Decidable.em (nrm x2 < 0) with c7 | c7
      · have hf := ite_t c7 hf
        cases hf; exact fq1
      · have hf := ite_f c7 hf
        rcases Decidable.em (nrm x2 < nrm (μ1 r2 1)) with c8 | c8
        · have hf := ite_t c8 hf
          obtain ⟨r10, μ9, e11, hf⟩ := bn_some hf
          have fq2 := fq1.trans (frc_X10_put g5 e11)
          obtain ⟨r13, μ12, e14, hf⟩ := bn_some hf
          have fq3 := fq2.trans (frc_X10_numberAt g5 e14)
          cases hf; exact fq3
        · have hf := ite_f c8 hf
          cases hf; exact fq1
    · have hf := ite_f c6 hf
      cases hf; exact fq1
theorem frc_w_X11_lists_91 : ∀ (n : Nat) (x0 x3 x5 x6 : Int) (μ μ' : Mem) (r : Int), isK x0 11 → f_X11_lists_w91 n x0 x3 x5 x6 μ = some (r, μ') → FrC μ μ' := by
  intro n
  induction n with
  | zero => intro x0 x3 x5 x6 μ μ' r t0 hf; cases hf
  | succ n ih =>
    intro x0 x3 x5 x6 μ μ' r t0 hf
    rw [f_X11_lists_w91.eq_2] at hf
    rcases Decidable.em (nrm x5 ≤ nrm x6) with c1 | c1
    · have hf := ite_t c1 hf
      cases hf; exact frc_rf
    · have hf := ite_f c1 hf
      obtain ⟨r3, μ2, e4, hf⟩ := bn_some hf
      have fq1 := (frc_X6_laneOnWay (ow_11_12 t0) e4)
      obtain ⟨g5, hf⟩ := gd_some hf
      obtain ⟨r7, μ6, e8, hf⟩ := bn_some hf
      have fq2 := fq1.trans (frc_X10_put g5 e8)
      exact fq2.trans (ih _ _ _ _ _ _ _ t0 hf)
theorem frc_X11_lists {x0 x1 x2 : Int} {μ μ' : Mem} {r : Int} (t0 : isK x0 11) (hf : f_X11_lists x0 x1 x2 μ = some (r, μ')) : FrC μ μ' := by
  unfold f_X11_lists at hf
  obtain ⟨r2, μ1, e3, hf⟩ := bn_some hf
  have fq3 := (frc_X11_trayOf t0 e3)
  rcases Decidable.em (r2 < 0) with c4 | c4
  · have hf := ite_t c4 hf
    cases hf; exact fq3
  · have hf := ite_f c4 hf
    obtain ⟨g5, hf⟩ := gd_some hf
    obtain ⟨r7, μ6, e8, hf⟩ := bn_some hf
    have fq4 := fq3.trans (frc_X3_hasPlace g5 e8)
    rcases Decidable.em (nrm r7 = 0) with c9 | c9
    · have hf := ite_t c9 hf
      cases hf; exact fq4
    · have hf := ite_f c9 hf
      obtain ⟨g10, hf⟩ := gd_some hf
      rcases Decidable.em (nrm (μ6 r2 0) = 0) with c11 | c11
      · have hf := ite_t c11 hf
        obtain ⟨r13, μ12, e14, hf⟩ := bn_some hf
        have fq5 := fq4.trans (frc_X6_measureFillings (ow_11_12 t0) e14)
        obtain ⟨r16, μ15, e17, hf⟩ := bn_some hf
        have fq6 := fq5.trans (frc_X6_farFrom (ow_11_12 t0) e17)
        rcases Decidable.em (nrm r16 = nrm (-1)) with c18 | c18
        · have hf := ite_t c18 hf
          cases hf; exact fq6
        · have hf := ite_f c18 hf
          obtain ⟨r20, μ19, e21, hf⟩ := bn_some hf
          have fq7 := fq6.trans (frc_X6_lanesIn e21)
          obtain ⟨r23, μ22, e24, hf⟩ := bn_some hf
          have fq8 := fq7.trans (frc_J9_min_7cf53 e24)
          exact fq8.trans (frc_w_X11_lists_91 FU _ _ _ _ _ _ _ t0 hf)
      · have hf := ite_f c11 hf
        cases hf; exact fq4
theorem frc_X11_pictureOf {x0 x1 : Int} {μ μ' : Mem} {r : Int} (t0 : isK x0 11) (hf : f_X11_pictureOf x0 x1 μ = some (r, μ')) : FrC μ μ' := by
  unfold f_X11_pictureOf at hf
  rcases Decidable.em (nrm x1 < 0) with c1 | c1
  · have hf := ite_t c1 hf
    cases hf; exact frc_rf
  · have hf := ite_f c1 hf
    rcases Decidable.em (nrm x1 < nrm 2) with c2 | c2
    · have hf := ite_t c2 hf
      obtain ⟨g3, hf⟩ := gd_some hf
      cases hf; exact frc_rf
    · have hf := ite_f c2 hf
      cases hf; exact frc_rf
theorem frc_X11_image {x0 x1 : Int} {μ μ' : Mem} {r : Int} (t0 : isK x0 11) (hf : f_X11_image x0 x1 μ = some (r, μ')) : FrC μ μ' := by
  unfold f_X11_image at hf
  obtain ⟨r2, μ1, e3, hf⟩ := bn_some hf
  have fq1 := (frc_X11_pictureOf t0 e3)
  rcases Decidable.em (r2 < 0) with c4 | c4
  · have hf := ite_t c4 hf
    cases hf; exact fq1
  · have hf := ite_f c4 hf
    obtain ⟨g5, hf⟩ := gd_some hf
    obtain ⟨r7, μ6, e8, hf⟩ := bn_some hf
    have fq2 := fq1.trans (frc_X0_takeOver g5 e8)
    obtain ⟨μ9, e10, hf⟩ := nm_some hf
    have fq3 := fq2.trans (frc_ms (by have := bd_11 t0; omega) e10)
    cases hf; exact fq3
theorem frc_X11_restore {x0 x1 : Int} {μ μ' : Mem} {r : Int} (t0 : isK x0 11) (hf : f_X11_restore x0 x1 μ = some (r, μ')) : FrC μ μ' := by
  unfold f_X11_restore at hf
  obtain ⟨r2, μ1, e3, hf⟩ := bn_some hf
  have fq1 := (frc_X11_pictureOf t0 e3)
  rcases Decidable.em (r2 < 0) with c4 | c4
  · have hf := ite_t c4 hf
    cases hf; exact fq1
  · have hf := ite_f c4 hf
    rcases Decidable.em (nrm (jand (jshr (μ1 x0 10) x1) 1) = 0) with c5 | c5
    · have hf := ite_t c5 hf
      cases hf; exact fq1
    · have hf := ite_f c5 hf
      obtain ⟨r7, μ6, e8, hf⟩ := bn_some hf
      have fq2 := fq1.trans (frc_X0_takeOver (ow_11_6 t0) e8)
      obtain ⟨r10, μ9, e11, hf⟩ := bn_some hf
      have fq3 := fq2.trans (frc_X2_forgetAll (ow_11_8 t0) e11)
      cases hf; exact fq3
theorem frc_X11_count {x0 x1 : Int} {μ μ' : Mem} {r : Int} (t0 : isK x0 11) (hf : f_X11_count x0 x1 μ = some (r, μ')) : FrC μ μ' := by
  unfold f_X11_count at hf
  rcases Decidable.em (nrm x1 = 0) with c1 | c1
  · have hf := ite_t c1 hf
    obtain ⟨g2, hf⟩ := gd_some hf
    cases hf; exact frc_rf
  have hf := ite_f c1 hf
  rcases Decidable.em (nrm x1 = 1) with c3 | c3
  · have hf := ite_t c3 hf
    obtain ⟨g4, hf⟩ := gd_some hf
    cases hf; exact frc_rf
  have hf := ite_f c3 hf
  rcases Decidable.em (nrm x1 = 2) with c5 | c5
  · have hf := ite_t c5 hf
    obtain ⟨g6, hf⟩ := gd_some hf
    cases hf; exact frc_rf
  have hf := ite_f c5 hf
  rcases Decidable.em (nrm x1 = 3) with c7 | c7
  · have hf := ite_t c7 hf
    cases hf; exact frc_rf
  have hf := ite_f c7 hf
  rcases Decidable.em (nrm x1 = 4) with c8 | c8
  · have hf := ite_t c8 hf
    obtain ⟨g9, hf⟩ := gd_some hf
    cases hf; exact frc_rf
  have hf := ite_f c8 hf
  rcases Decidable.em (nrm x1 = 5) with c10 | c10
  · have hf := ite_t c10 hf
    cases hf; exact frc_rf
  have hf := ite_f c10 hf
  rcases Decidable.em (nrm x1 = 6) with c11 | c11
  · have hf := ite_t c11 hf
    cases hf; exact frc_rf
  have hf := ite_f c11 hf
  rcases Decidable.em (nrm x1 = 7) with c12 | c12
  · have hf := ite_t c12 hf
    obtain ⟨r14, μ13, e15, hf⟩ := bn_some hf
    have fq1 := (frc_X0_allDepths (ow_11_6 t0) e15)
    cases hf; exact fq1
  have hf := ite_f c12 hf
  rcases Decidable.em (nrm x1 = 8) with c16 | c16
  · have hf := ite_t c16 hf
    cases hf; exact frc_rf
  have hf := ite_f c16 hf
  rcases Decidable.em (nrm x1 = 9) with c17 | c17
  · have hf := ite_t c17 hf
    obtain ⟨r19, μ18, e20, hf⟩ := bn_some hf
    have fq2 := (frc_X2_kept (ow_11_8 t0) e20)
    cases hf; exact fq2
  have hf := ite_f c17 hf
  rcases Decidable.em (nrm x1 = 10) with c21 | c21
  · have hf := ite_t c21 hf
    cases hf; exact frc_rf
  have hf := ite_f c21 hf
  rcases Decidable.em (nrm x1 = 11) with c22 | c22
  · have hf := ite_t c22 hf
    obtain ⟨g23, hf⟩ := gd_some hf
    cases hf; exact frc_rf
  have hf := ite_f c22 hf
  cases hf; exact frc_rf
theorem frr_X12_within {x0 x2 x4 : Int} {μ μ' : Mem} {r : Int} (hf : f_X12_within x0 x2 x4 μ = some (r, μ')) : FrR μ μ' := by
  unfold f_X12_within at hf
  rcases Decidable.em (nrm (kcmp x0 x2) < 0) with c1 | c1
  · have hf := ite_t c1 hf
    cases hf; exact frr_rf
  · have hf := ite_f c1 hf
    rcases Decidable.em (0 < nrm (kcmp x0 x4)) with c2 | c2
    · have hf := ite_t c2 hf
      cases hf; exact frr_rf
    · have hf := ite_f c2 hf
      cases hf; exact frr_rf
theorem frr_w_X12_plain_2 : ∀ (n : Nat) (x0 x1 : Int) (μ μ' : Mem) (r : Int), x0 ≥ 111 → f_X12_plain_w2 n x0 x1 μ = some (r, μ') → FrR μ μ' := by
  intro n
  induction n with
  | zero => intro x0 x1 μ μ' r hb hf; cases hf
  | succ n ih =>
    intro x0 x1 μ μ' r hb hf
    rw [f_X12_plain_w2.eq_2] at hf
    rcases Decidable.em (nrm 1100 ≤ nrm x1) with c1 | c1
    · have hf := ite_t c1 hf
      obtain ⟨g4, hf⟩ := gd_some hf
      obtain ⟨μ2, e3, hf⟩ := nm_some hf
      have fq1 := (frr_ms (by omega) e3)
      cases hf; exact fq1
    · have hf := ite_f c1 hf
      obtain ⟨g7, hf⟩ := gd_some hf
      obtain ⟨μ5, e6, hf⟩ := nm_some hf
      have fq2 := (frr_ms (by omega) e6)
      exact fq2.trans (ih _ _ _ _ _ hb hf)
theorem frr_X12_plain {x0 : Int} {μ μ' : Mem} {r : Int} (hb : x0 ≥ 111) (hf : f_X12_plain x0 μ = some (r, μ')) : FrR μ μ' := by
  unfold f_X12_plain at hf
  exact frr_w_X12_plain_2 FU _ _ _ _ _ hb hf
theorem frr_w_X12_feed_77 (k24 : Int → Int → Int → Int → Int → Int → Int → Mem → Option (Int × Mem)) (h24 : ∀ (x0 x1 x2 x3 x4 x5 x6 : Int) (μ μ' : Mem) (r : Int), isK x0 12 → k24 x0 x1 x2 x3 x4 x5 x6 μ = some (r, μ') → FrR μ μ') {x0 x1 x2 x3 x4 x5 x6 s0 : Int} {μ μ' : Mem} {r : Int} (t0 : isK x0 12) (hf : f_X12_feed_j77 k24 x0 x1 x2 x3 x4 x5 x6 s0 μ = some (r, μ')) : FrR μ μ' := by
  unfold f_X12_feed_j77 at hf
  obtain ⟨g3, hf⟩ := gd_some hf
  obtain ⟨μ1, e2, hf⟩ := nm_some hf
  have fq1 := (frr_ms (by have := bd_12 t0; omega) e2)
  obtain ⟨μ4, e5, hf⟩ := nm_some hf
  have fq2 := fq1.trans (frr_ms (by have := bd_12 t0; omega) e5)
  exact fq2.trans (h24 _ _ _ _ _ _ _ _ _ _ t0 hf)
theorem frr_w_X12_feed_24 : ∀ (n : Nat) (x0 x1 x2 x3 x4 x5 x6 : Int) (μ μ' : Mem) (r : Int), isK x0 12 → f_X12_feed_w24 n x0 x1 x2 x3 x4 x5 x6 μ = some (r, μ') → FrR μ μ' := by
  intro n
  induction n with
  | zero => intro x0 x1 x2 x3 x4 x5 x6 μ μ' r t0 hf; cases hf
  | succ n ih =>
    intro x0 x1 x2 x3 x4 x5 x6 μ μ' r t0 hf
    rw [f_X12_feed_w24.eq_2] at hf
    rcases Decidable.em (nrm 20 ≤ nrm x6) with c1 | c1
    · have hf := ite_t c1 hf
      cases hf; exact frr_rf
    · have hf := ite_f c1 hf
      rcases Decidable.em (nrm 4 ≤ nrm x6) with c2 | c2
      · have hf := ite_t c2 hf
        rcases Decidable.em (nrm 8 ≤ nrm x6) with c3 | c3
        · have hf := ite_t c3 hf
          rcases Decidable.em (nrm 12 ≤ nrm x6) with c4 | c4
          · have hf := ite_t c4 hf
            rcases Decidable.em (nrm 16 ≤ nrm x6) with c5 | c5
            · have hf := ite_t c5 hf
              exact frr_w_X12_feed_77 _ ih t0 hf
            · have hf := ite_f c5 hf
              exact frr_w_X12_feed_77 _ ih t0 hf
          · have hf := ite_f c4 hf
            exact frr_w_X12_feed_77 _ ih t0 hf
        · have hf := ite_f c3 hf
          exact frr_w_X12_feed_77 _ ih t0 hf
      · have hf := ite_f c2 hf
        exact frr_w_X12_feed_77 _ ih t0 hf
theorem frr_X12_feed {x0 x1 x2 x3 x4 x5 : Int} {μ μ' : Mem} {r : Int} (t0 : isK x0 12) (hf : f_X12_feed x0 x1 x2 x3 x4 x5 μ = some (r, μ')) : FrR μ μ' := by
  unfold f_X12_feed at hf
  obtain ⟨μ1, e2, hf⟩ := nm_some hf
  have fq3 := (frr_ms (by have := bd_12 t0; omega) e2)
  rcases Decidable.em (nrm ((μ1 x0 5) + 20) ≤ nrm 900) with c3 | c3
  · have hf := ite_t c3 hf
    exact fq3.trans (frr_w_X12_feed_24 FU _ _ _ _ _ _ _ _ _ _ t0 hf)
  · have hf := ite_f c3 hf
    cases hf; exact fq3
theorem frr_X12_see {x0 x1 : Int} {μ μ' : Mem} {r : Int} (t0 : isK x0 12) (hf : f_X12_see x0 x1 μ = some (r, μ')) : FrR μ μ' := by
  unfold f_X12_see at hf
  rcases Decidable.em (nrm (μ x0 8) ≤ nrm x1) with c1 | c1
  · have hf := ite_t c1 hf
    cases hf; exact frr_rf
  · have hf := ite_f c1 hf
    obtain ⟨g2, hf⟩ := gd_some hf
    cases hf; exact frr_rf
theorem frr_X12_isSmall {x0 : Int} {μ μ' : Mem} {r : Int} (hf : f_X12_isSmall x0 μ = some (r, μ')) : FrR μ μ' := by
  unfold f_X12_isSmall at hf
  rcases Decidable.em (nrm x0 < nrm 97) with c1 | c1
  · have hf := ite_t c1 hf
    cases hf; exact frr_rf
  · have hf := ite_f c1 hf
    rcases Decidable.em (nrm 122 < nrm x0) with c2 | c2
    · have hf := ite_t c2 hf
      cases hf; exact frr_rf
    · have hf := ite_f c2 hf
      cases hf; exact frr_rf
theorem frr_X12_isDigit {x0 : Int} {μ μ' : Mem} {r : Int} (hf : f_X12_isDigit x0 μ = some (r, μ')) : FrR μ μ' := by
  unfold f_X12_isDigit at hf
  rcases Decidable.em (nrm x0 < nrm 48) with c1 | c1
  · have hf := ite_t c1 hf
    cases hf; exact frr_rf
  · have hf := ite_f c1 hf
    rcases Decidable.em (nrm 57 < nrm x0) with c2 | c2
    · have hf := ite_t c2 hf
      cases hf; exact frr_rf
    · have hf := ite_f c2 hf
      cases hf; exact frr_rf
theorem frr_w_X12_keyAt_97 (k4 : Int → Int → Int → Mem → Option (Int × Mem)) (h4 : ∀ (x0 x1 x2 : Int) (μ μ' : Mem) (r : Int), isK x0 12 → k4 x0 x1 x2 μ = some (r, μ') → FrR μ μ') : ∀ (n : Nat) (x0 x1 x2 : Int) (μ μ' : Mem) (r : Int), isK x0 12 → f_X12_keyAt_w97 k4 n x0 x1 x2 μ = some (r, μ') → FrR μ μ' := by
  intro n
  induction n with
  | zero => intro x0 x1 x2 μ μ' r t0 hf; cases hf
  | succ n ih =>
    intro x0 x1 x2 μ μ' r t0 hf
    rw [f_X12_keyAt_w97.eq_2] at hf
    obtain ⟨g1, hf⟩ := gd_some hf
    rcases Decidable.em (nrm (sch 2 (nrm x2)) = nrm 32) with c2 | c2
    · have hf := ite_t c2 hf
      exact h4 _ _ _ _ _ _ t0 hf
    · have hf := ite_f c2 hf
      exact ih _ _ _ _ _ _ t0 hf
theorem frr_w_X12_keyAt_69 (k4 : Int → Int → Int → Mem → Option (Int × Mem)) (h4 : ∀ (x0 x1 x2 : Int) (μ μ' : Mem) (r : Int), isK x0 12 → k4 x0 x1 x2 μ = some (r, μ') → FrR μ μ') {x0 x1 x2 x3 : Int} {μ μ' : Mem} {r : Int} (t0 : isK x0 12) (hf : f_X12_keyAt_j69 k4 x0 x1 x2 x3 μ = some (r, μ')) : FrR μ μ' := by
  unfold f_X12_keyAt_j69 at hf
  obtain ⟨g1, hf⟩ := gd_some hf
  rcases Decidable.em (nrm (sch 2 (nrm (x2 + x3))) = nrm 32) with c2 | c2
  · have hf := ite_t c2 hf
    rcases Decidable.em (nrm ((μ x0 6) + x3) = nrm (μ x0 7)) with c3 | c3
    · have hf := ite_t c3 hf
      cases hf; exact frr_rf
    · have hf := ite_f c3 hf
      exact frr_w_X12_keyAt_97 _ h4 FU _ _ _ _ _ _ t0 hf
  · have hf := ite_f c2 hf
    exact frr_w_X12_keyAt_97 _ h4 FU _ _ _ _ _ _ t0 hf
theorem frr_w_X12_keyAt_15 (k4 : Int → Int → Int → Mem → Option (Int × Mem)) (h4 : ∀ (x0 x1 x2 : Int) (μ μ' : Mem) (r : Int), isK x0 12 → k4 x0 x1 x2 μ = some (r, μ') → FrR μ μ') : ∀ (n : Nat) (x0 x1 x2 x3 : Int) (μ μ' : Mem) (r : Int), isK x0 12 → f_X12_keyAt_w15 k4 n x0 x1 x2 x3 μ = some (r, μ') → FrR μ μ' := by
  intro n
  induction n with
  | zero => intro x0 x1 x2 x3 μ μ' r t0 hf; cases hf
  | succ n ih =>
    intro x0 x1 x2 x3 μ μ' r t0 hf
    rw [f_X12_keyAt_w15.eq_2] at hf
    obtain ⟨g1, hf⟩ := gd_some hf
    rcases Decidable.em (nrm (sch 2 (nrm (x2 + x3))) = nrm 32) with c2 | c2
    · have hf := ite_t c2 hf
      exact frr_w_X12_keyAt_69 _ h4 t0 hf
    · have hf := ite_f c2 hf
      rcases Decidable.em (nrm (μ x0 7) ≤ nrm ((μ x0 6) + x3)) with c3 | c3
      · have hf := ite_t c3 hf
        exact frr_w_X12_keyAt_69 _ h4 t0 hf
      · have hf := ite_f c3 hf
        obtain ⟨g4, hf⟩ := gd_some hf
        obtain ⟨g5, hf⟩ := gd_some hf
        rcases Decidable.em (nrm (μ (x0 + 3) (nrm ((μ x0 6) + x3))) = nrm (sch 2 (nrm (x2 + x3)))) with c6 | c6
        · have hf := ite_t c6 hf
          exact ih _ _ _ _ _ _ _ t0 hf
        · have hf := ite_f c6 hf
          exact frr_w_X12_keyAt_69 _ h4 t0 hf
theorem frr_w_X12_keyAt_4 : ∀ (n : Nat) (x0 x1 x2 : Int) (μ μ' : Mem) (r : Int), isK x0 12 → f_X12_keyAt_w4 n x0 x1 x2 μ = some (r, μ') → FrR μ μ' := by
  intro n
  induction n with
  | zero => intro x0 x1 x2 μ μ' r t0 hf; cases hf
  | succ n ih =>
    intro x0 x1 x2 μ μ' r t0 hf
    rw [f_X12_keyAt_w4.eq_2] at hf
    rcases Decidable.em (nrm 108 ≤ nrm x2) with c1 | c1
    · have hf := ite_t c1 hf
      cases hf; exact frr_rf
    · have hf := ite_f c1 hf
      exact frr_w_X12_keyAt_15 _ ih FU _ _ _ _ _ _ _ t0 hf
theorem frr_X12_keyAt {x0 : Int} {μ μ' : Mem} {r : Int} (t0 : isK x0 12) (hf : f_X12_keyAt x0 μ = some (r, μ')) : FrR μ μ' := by
  unfold f_X12_keyAt at hf
  exact frr_w_X12_keyAt_4 FU _ _ _ _ _ _ t0 hf
theorem frr_w_X12_next_34 (k8 : Int → Mem → Option (Int × Mem)) (h8 : ∀ (x0 : Int) (μ μ' : Mem) (r : Int), isK x0 12 → k8 x0 μ = some (r, μ') → FrR μ μ') {x0 : Int} {μ μ' : Mem} {r : Int} (t0 : isK x0 12) (hf : f_X12_next_j34 k8 x0 μ = some (r, μ')) : FrR μ μ' := by
  unfold f_X12_next_j34 at hf
  obtain ⟨μ1, e2, hf⟩ := nm_some hf
  have fq1 := (frr_ms (by have := bd_12 t0; omega) e2)
  exact fq1.trans (h8 _ _ _ _ t0 hf)
theorem frr_w_X12_next_288 (k254 : Int → Int → Mem → Option (Int × Mem)) (h254 : ∀ (x0 x1 : Int) (μ μ' : Mem) (r : Int), isK x0 12 → k254 x0 x1 μ = some (r, μ') → FrR μ μ') {x0 x1 : Int} {μ μ' : Mem} {r : Int} (t0 : isK x0 12) (hf : f_X12_next_j288 k254 x0 x1 μ = some (r, μ')) : FrR μ μ' := by
  unfold f_X12_next_j288 at hf
  exact h254 _ _ _ _ _ t0 hf
theorem frr_w_X12_next_254 : ∀ (n : Nat) (x0 x1 : Int) (μ μ' : Mem) (r : Int), isK x0 12 → f_X12_next_w254 n x0 x1 μ = some (r, μ') → FrR μ μ' := by
  intro n
  induction n with
  | zero => intro x0 x1 μ μ' r t0 hf; cases hf
  | succ n ih =>
    intro x0 x1 μ μ' r t0 hf
    rw [f_X12_next_w254.eq_2] at hf
    rcases Decidable.em (nrm 12 ≤ nrm x1) with c1 | c1
    · have hf := ite_t c1 hf
      cases hf; exact frr_rf
    · have hf := ite_f c1 hf
      obtain ⟨r3, μ2, e4, hf⟩ := bn_some hf
      have fq2 := (frr_X12_see t0 e4)
      obtain ⟨g5, hf⟩ := gd_some hf
      rcases Decidable.em (nrm r3 = nrm (sch 1 (nrm x1))) with c6 | c6
      · have hf := ite_t c6 hf
        obtain ⟨μ7, e8, hf⟩ := nm_some hf
        have fq3 := fq2.trans (frr_ms (by have := bd_12 t0; omega) e8)
        exact fq3.trans (frr_w_X12_next_288 _ ih t0 hf)
      · have hf := ite_f c6 hf
        exact fq2.trans (frr_w_X12_next_288 _ ih t0 hf)
theorem frr_w_X12_next_230 {s0 s1 : Int} {μ μ' : Mem} {r : Int} (hb_s0 : s0 ≥ 111) (hf : f_X12_next_j230 s0 s1 μ = some (r, μ')) : FrR μ μ' := by
  unfold f_X12_next_j230 at hf
  obtain ⟨g1, hf⟩ := gd_some hf
  obtain ⟨μ2, e3, hf⟩ := nm_some hf
  have fq4 := (frr_ms (by have := bd_12 g1; omega) e3)
  cases hf; exact fq4
theorem frr_w_X12_next_196 (k146 : Int → Mem → Option (Int × Mem)) (h146 : ∀ (x0 : Int) (μ μ' : Mem) (r : Int), isK x0 12 → k146 x0 μ = some (r, μ') → FrR μ μ') {x0 : Int} {μ μ' : Mem} {r : Int} (t0 : isK x0 12) (hf : f_X12_next_j196 k146 x0 μ = some (r, μ')) : FrR μ μ' := by
  unfold f_X12_next_j196 at hf
  obtain ⟨μ1, e2, hf⟩ := nm_some hf
  have fq5 := (frr_ms (by have := bd_12 t0; omega) e2)
  exact fq5.trans (h146 _ _ _ _ t0 hf)
theorem frr_w_X12_next_146 : ∀ (n : Nat) (x0 : Int) (μ μ' : Mem) (r : Int), isK x0 12 → f_X12_next_w146 n x0 μ = some (r, μ') → FrR μ μ' := by
  intro n
  induction n with
  | zero => intro x0 μ μ' r t0 hf; cases hf
  | succ n ih =>
    intro x0 μ μ' r t0 hf
    rw [f_X12_next_w146.eq_2] at hf
    obtain ⟨r2, μ1, e3, hf⟩ := bn_some hf
    have fq6 := (frr_X12_see t0 e3)
    obtain ⟨r5, μ4, e6, hf⟩ := bn_some hf
    have fq7 := fq6.trans (frr_X12_isDigit e6)
    rcases Decidable.em (nrm r5 = 0) with c7 | c7
    · have hf := ite_t c7 hf
      rcases Decidable.em (nrm ((μ4 x0 7) - (μ4 x0 6)) ≤ nrm 3) with c8 | c8
      · have hf := ite_t c8 hf
        exact fq7.trans (frr_w_X12_next_230 (by have := bd_12 t0; omega) hf)
      · have hf := ite_f c8 hf
        exact fq7.trans (frr_w_X12_next_230 (by have := bd_12 t0; omega) hf)
    · have hf := ite_f c7 hf
      rcases Decidable.em (nrm 3 ≤ nrm ((μ4 x0 7) - (μ4 x0 6))) with c9 | c9
      · have hf := ite_t c9 hf
        exact fq7.trans (frr_w_X12_next_196 _ ih t0 hf)
      · have hf := ite_f c9 hf
        obtain ⟨r11, μ10, e12, hf⟩ := bn_some hf
        have fq8 := fq7.trans (frr_X12_see t0 e12)
        obtain ⟨μ13, e14, hf⟩ := nm_some hf
        have fq9 := fq8.trans (frr_ms (by have := bd_12 t0; omega) e14)
        exact fq9.trans (frr_w_X12_next_196 _ ih t0 hf)
theorem frr_w_X12_next_89 : ∀ (n : Nat) (x0 : Int) (μ μ' : Mem) (r : Int), isK x0 12 → f_X12_next_w89 n x0 μ = some (r, μ') → FrR μ μ' := by
  intro n
  induction n with
  | zero => intro x0 μ μ' r t0 hf; cases hf
  | succ n ih =>
    intro x0 μ μ' r t0 hf
    rw [f_X12_next_w89.eq_2] at hf
    obtain ⟨r2, μ1, e3, hf⟩ := bn_some hf
    have fq10 := (frr_X12_see t0 e3)
    obtain ⟨r5, μ4, e6, hf⟩ := bn_some hf
    have fq11 := fq10.trans (frr_X12_isSmall e6)
    rcases Decidable.em (nrm r5 = 0) with c7 | c7
    · have hf := ite_t c7 hf
      obtain ⟨r9, μ8, e10, hf⟩ := bn_some hf
      have fq12 := fq11.trans (frr_X12_keyAt t0 e10)
      obtain ⟨μ11, e12, hf⟩ := nm_some hf
      have fq13 := fq12.trans (frr_ms (by have := bd_12 t0; omega) e12)
      cases hf; exact fq13
    · have hf := ite_f c7 hf
      obtain ⟨μ13, e14, hf⟩ := nm_some hf
      have fq14 := fq11.trans (frr_ms (by have := bd_12 t0; omega) e14)
      exact fq14.trans (ih _ _ _ _ t0 hf)
theorem frr_w_X12_next_8 : ∀ (n : Nat) (x0 : Int) (μ μ' : Mem) (r : Int), isK x0 12 → f_X12_next_w8 n x0 μ = some (r, μ') → FrR μ μ' := by
  intro n
  induction n with
  | zero => intro x0 μ μ' r t0 hf; cases hf
  | succ n ih =>
    intro x0 μ μ' r t0 hf
    rw [f_X12_next_w8.eq_2] at hf
    obtain ⟨r2, μ1, e3, hf⟩ := bn_some hf
    have fq15 := (frr_X12_see t0 e3)
    rcases Decidable.em (nrm r2 = nrm 10) with c4 | c4
    · have hf := ite_t c4 hf
      exact fq15.trans (frr_w_X12_next_34 _ ih t0 hf)
    · have hf := ite_f c4 hf
      obtain ⟨r6, μ5, e7, hf⟩ := bn_some hf
      have fq16 := fq15.trans (frr_X12_see t0 e7)
      rcases Decidable.em (nrm r6 = nrm 32) with c8 | c8
      · have hf := ite_t c8 hf
        exact fq16.trans (frr_w_X12_next_34 _ ih t0 hf)
      · have hf := ite_f c8 hf
        obtain ⟨μ9, e10, hf⟩ := nm_some hf
        have fq17 := fq16.trans (frr_ms (by have := bd_12 t0; omega) e10)
        rcases Decidable.em (nrm (μ9 x0 6) < nrm (μ9 x0 8)) with c11 | c11
        · have hf := ite_t c11 hf
          obtain ⟨r13, μ12, e14, hf⟩ := bn_some hf
          have fq18 := fq17.trans (frr_X12_see t0 e14)
          obtain ⟨r16, μ15, e17, hf⟩ := bn_some hf
          have fq19 := fq18.trans (frr_X12_isSmall e17)
          rcases Decidable.em (nrm r16 = 0) with c18 | c18
          · have hf := ite_t c18 hf
            obtain ⟨r20, μ19, e21, hf⟩ := bn_some hf
            have fq20 := fq19.trans (frr_X12_see t0 e21)
            obtain ⟨r23, μ22, e24, hf⟩ := bn_some hf
            have fq21 := fq20.trans (frr_X12_isDigit e24)
            rcases Decidable.em (nrm r23 = 0) with c25 | c25
            · have hf := ite_t c25 hf
              obtain ⟨μ26, e27, hf⟩ := nm_some hf
              have fq22 := fq21.trans (frr_ms (by have := bd_12 t0; omega) e27)
              obtain ⟨μ28, e29, hf⟩ := nm_some hf
              have fq23 := fq22.trans (frr_ms (by have := bd_12 t0; omega) e29)
              exact fq23.trans (frr_w_X12_next_254 FU _ _ _ _ _ t0 hf)
            · have hf := ite_f c25 hf
              obtain ⟨μ30, e31, hf⟩ := nm_some hf
              have fq24 := fq21.trans (frr_ms (by have := bd_12 t0; omega) e31)
              exact fq24.trans (frr_w_X12_next_146 FU _ _ _ _ t0 hf)
          · have hf := ite_f c18 hf
            exact fq19.trans (frr_w_X12_next_89 FU _ _ _ _ t0 hf)
        · have hf := ite_f c11 hf
          obtain ⟨μ32, e33, hf⟩ := nm_some hf
          have fq25 := fq17.trans (frr_ms (by have := bd_12 t0; omega) e33)
          cases hf; exact fq25
theorem frr_X12_next {x0 : Int} {μ μ' : Mem} {r : Int} (t0 : isK x0 12) (hf : f_X12_next x0 μ = some (r, μ')) : FrR μ μ' := by
  unfold f_X12_next at hf
  obtain ⟨μ1, e2, hf⟩ := nm_some hf
  have fq26 := (frr_ms (by have := bd_12 t0; omega) e2)
  exact fq26.trans (frr_w_X12_next_8 FU _ _ _ _ t0 hf)
theorem frr_w_X12_fails_23 {x0 s0 s1 : Int} {μ μ' : Mem} {r : Int} (hb_s0 : s0 ≥ 111) (t0 : isK x0 12) (hf : f_X12_fails_j23 x0 s0 s1 μ = some (r, μ')) : FrR μ μ' := by
  unfold f_X12_fails_j23 at hf
  obtain ⟨g1, hf⟩ := gd_some hf
  obtain ⟨μ2, e3, hf⟩ := nm_some hf
  have fq1 := (frr_ms (by have := bd_12 g1; omega) e3)
  obtain ⟨μ4, e5, hf⟩ := nm_some hf
  have fq2 := fq1.trans (frr_ms (by have := bd_12 t0; omega) e5)
  cases hf; exact fq2
theorem frr_X12_fails {x0 x1 : Int} {μ μ' : Mem} {r : Int} (t0 : isK x0 12) (hf : f_X12_fails x0 x1 μ = some (r, μ')) : FrR μ μ' := by
  unfold f_X12_fails at hf
  rcases Decidable.em (nrm (μ x0 11) = 0) with c1 | c1
  · have hf := ite_t c1 hf
    rcases Decidable.em (nrm (μ x0 9) = nrm 25) with c2 | c2
    · have hf := ite_t c2 hf
      exact frr_w_X12_fails_23 (by have := bd_12 t0; omega) t0 hf
    · have hf := ite_f c2 hf
      exact frr_w_X12_fails_23 (by have := bd_12 t0; omega) t0 hf
  · have hf := ite_f c1 hf
    cases hf; exact frr_rf
theorem frr_X12_is {x0 x1 : Int} {μ μ' : Mem} {r : Int} (t0 : isK x0 12) (hf : f_X12_is x0 x1 μ = some (r, μ')) : FrR μ μ' := by
  unfold f_X12_is at hf
  rcases Decidable.em (nrm (μ x0 11) = 0) with c1 | c1
  · have hf := ite_t c1 hf
    rcases Decidable.em (nrm (μ x0 9) = nrm x1) with c2 | c2
    · have hf := ite_t c2 hf
      cases hf; exact frr_rf
    · have hf := ite_f c2 hf
      cases hf; exact frr_rf
  · have hf := ite_f c1 hf
    cases hf; exact frr_rf
theorem frr_X12_eats {x0 x1 : Int} {μ μ' : Mem} {r : Int} (t0 : isK x0 12) (hf : f_X12_eats x0 x1 μ = some (r, μ')) : FrR μ μ' := by
  unfold f_X12_eats at hf
  obtain ⟨r2, μ1, e3, hf⟩ := bn_some hf
  have fq1 := (frr_X12_is t0 e3)
  rcases Decidable.em (nrm r2 = 0) with c4 | c4
  · have hf := ite_t c4 hf
    cases hf; exact fq1
  · have hf := ite_f c4 hf
    obtain ⟨r6, μ5, e7, hf⟩ := bn_some hf
    have fq2 := fq1.trans (frr_X12_next t0 e7)
    cases hf; exact fq2
theorem frr_w_X12_takes_37 {x0 : Int} {μ μ' : Mem} {r : Int} (t0 : isK x0 12) (hf : f_X12_takes_j37 x0 μ = some (r, μ')) : FrR μ μ' := by
  unfold f_X12_takes_j37 at hf
  obtain ⟨v1, e2, hf⟩ := nm_some hf
  rcases Decidable.em (nrm (μ x0 11) = 0) with c3 | c3
  · have hf := ite_t c3 hf
    obtain ⟨r5, μ4, e6, hf⟩ := bn_some hf
    have fq1 := (frr_X12_next t0 e6)
    cases hf; exact fq1
  · have hf := ite_f c3 hf
    cases hf; exact frr_rf
theorem frr_X12_takes {x0 x1 x2 : Int} {μ μ' : Mem} {r : Int} (t0 : isK x0 12) (hf : f_X12_takes x0 x1 x2 μ = some (r, μ')) : FrR μ μ' := by
  unfold f_X12_takes at hf
  obtain ⟨r2, μ1, e3, hf⟩ := bn_some hf
  have fq2 := (frr_X12_is t0 e3)
  rcases Decidable.em (nrm r2 = 0) with c4 | c4
  · have hf := ite_t c4 hf
    obtain ⟨r13, μ12, e14, hf⟩ := bn_some hf
    have fq5 := fq2.trans (frr_X12_fails t0 e14)
    exact fq5.trans (frr_w_X12_takes_37 t0 hf)
  · have hf := ite_f c4 hf
    obtain ⟨r6, μ5, e7, hf⟩ := bn_some hf
    have fq3 := fq2.trans (frr_X12_within e7)
    rcases Decidable.em (nrm r6 = 0) with c8 | c8
    · have hf := ite_t c8 hf
      obtain ⟨r10, μ9, e11, hf⟩ := bn_some hf
      have fq4 := fq3.trans (frr_X12_fails t0 e11)
      exact fq4.trans (frr_w_X12_takes_37 t0 hf)
    · have hf := ite_f c8 hf
      exact fq3.trans (frr_w_X12_takes_37 t0 hf)
theorem frr_X12_isIn {x0 x2 : Int} {μ μ' : Mem} {r : Int} (hf : f_X12_isIn x0 x2 μ = some (r, μ')) : FrR μ μ' := by
  unfold f_X12_isIn at hf
  rcases Decidable.em (nrm (kcmp (kand (kshr x0 x2) 1) 1) = 0) with c1 | c1
  · have hf := ite_t c1 hf
    cases hf; exact frr_rf
  · have hf := ite_f c1 hf
    cases hf; exact frr_rf
theorem frr_X12_wordOf {x0 x1 : Int} {μ μ' : Mem} {r : Int} (t0 : isK x0 12) (hf : f_X12_wordOf x0 x1 μ = some (r, μ')) : FrR μ μ' := by
  unfold f_X12_wordOf at hf
  rcases Decidable.em (nrm x1 = 2) with c1 | c1
  · have hf := ite_t c1 hf
    cases hf; exact frr_rf
  have hf := ite_f c1 hf
  rcases Decidable.em (nrm x1 = 3) with c2 | c2
  · have hf := ite_t c2 hf
    cases hf; exact frr_rf
  have hf := ite_f c2 hf
  rcases Decidable.em (nrm x1 = 4) with c3 | c3
  · have hf := ite_t c3 hf
    cases hf; exact frr_rf
  have hf := ite_f c3 hf
  rcases Decidable.em (nrm x1 = 8) with c4 | c4
  · have hf := ite_t c4 hf
    cases hf; exact frr_rf
  have hf := ite_f c4 hf
  rcases Decidable.em (nrm x1 = 11) with c5 | c5
  · have hf := ite_t c5 hf
    rcases Decidable.em (nrm (μ x0 15) = nrm 1) with c6 | c6
    · have hf := ite_t c6 hf
      cases hf; exact frr_rf
    · have hf := ite_f c6 hf
      cases hf; exact frr_rf
  have hf := ite_f c5 hf
  rcases Decidable.em (nrm x1 = 12) with c7 | c7
  · have hf := ite_t c7 hf
    cases hf; exact frr_rf
  have hf := ite_f c7 hf
  cases hf; exact frr_rf
theorem frr_X12_codes {x0 x1 : Int} {μ μ' : Mem} {r : Int} (t0 : isK x0 12) (hf : f_X12_codes x0 x1 μ = some (r, μ')) : FrR μ μ' := by
  unfold f_X12_codes at hf
  rcases Decidable.em (nrm (μ x0 11) = 0) with c1 | c1
  · have hf := ite_t c1 hf
    obtain ⟨g4, hf⟩ := gd_some hf
    obtain ⟨μ2, e3, hf⟩ := nm_some hf
    have fq1 := (frr_ms (by have := bd_12 t0; omega) e3)
    obtain ⟨μ5, e6, hf⟩ := nm_some hf
    have fq2 := fq1.trans (frr_ms (by have := bd_12 t0; omega) e6)
    cases hf; exact fq2
  · have hf := ite_f c1 hf
    cases hf; exact frr_rf
theorem frr_w_X12_goesIn_22 {x0 : Int} {μ μ' : Mem} {r : Int} (t0 : isK x0 12) (hf : f_X12_goesIn_j22 x0 μ = some (r, μ')) : FrR μ μ' := by
  unfold f_X12_goesIn_j22 at hf
  rcases Decidable.em (nrm (μ x0 11) = 0) with c1 | c1
  · have hf := ite_t c1 hf
    cases hf; exact frr_rf
  · have hf := ite_f c1 hf
    cases hf; exact frr_rf
theorem frr_w_X12_goesIn_11 {x0 : Int} {μ μ' : Mem} {r : Int} (t0 : isK x0 12) (hf : f_X12_goesIn_j11 x0 μ = some (r, μ')) : FrR μ μ' := by
  unfold f_X12_goesIn_j11 at hf
  rcases Decidable.em (nrm (μ x0 11) = 0) with c1 | c1
  · have hf := ite_t c1 hf
    obtain ⟨r3, μ2, e4, hf⟩ := bn_some hf
    have fq1 := (frr_X12_next t0 e4)
    exact fq1.trans (frr_w_X12_goesIn_22 t0 hf)
  · have hf := ite_f c1 hf
    exact frr_w_X12_goesIn_22 t0 hf
theorem frr_X12_goesIn {x0 x1 : Int} {μ μ' : Mem} {r : Int} (t0 : isK x0 12) (hf : f_X12_goesIn x0 x1 μ = some (r, μ')) : FrR μ μ' := by
  unfold f_X12_goesIn at hf
  rcases Decidable.em (nrm x1 = nrm 6) with c1 | c1
  · have hf := ite_t c1 hf
    obtain ⟨r3, μ2, e4, hf⟩ := bn_some hf
    have fq2 := (frr_X12_fails t0 e4)
    exact fq2.trans (frr_w_X12_goesIn_11 t0 hf)
  · have hf := ite_f c1 hf
    exact frr_w_X12_goesIn_11 t0 hf
theorem frr_w_X12_readAtom_66 (rec : Nat → Int → Int → Mem → Option (Int × Mem)) (h_0 : ∀ (x0 x1 : Int) (μ μ' : Mem) (r : Int), isK x0 12 → rec 0 x0 x1 μ = some (r, μ') → FrR μ μ') (h_1 : ∀ (x0 x1 : Int) (μ μ' : Mem) (r : Int), isK x0 12 → rec 1 x0 x1 μ = some (r, μ') → FrR μ μ') (h_2 : ∀ (x0 x1 : Int) (μ μ' : Mem) (r : Int), isK x0 12 → rec 2 x0 x1 μ = some (r, μ') → FrR μ μ') (h_3 : ∀ (x0 x1 : Int) (μ μ' : Mem) (r : Int), isK x0 12 → rec 3 x0 x1 μ = some (r, μ') → FrR μ μ') (h_4 : ∀ (x0 x1 : Int) (μ μ' : Mem) (r : Int), isK x0 12 → rec 4 x0 x1 μ = some (r, μ') → FrR μ μ') (h_5 : ∀ (x0 x1 : Int) (μ μ' : Mem) (r : Int), isK x0 12 → rec 5 x0 x1 μ = some (r, μ') → FrR μ μ') (h_6 : ∀ (x0 x1 : Int) (μ μ' : Mem) (r : Int), isK x0 12 → rec 6 x0 x1 μ = some (r, μ') → FrR μ μ') {x0 x1 : Int} {μ μ' : Mem} {r : Int} (t0 : isK x0 12) (hf : f_X12_readAtom_j66 rec x0 x1 μ = some (r, μ')) : FrR μ μ' := by
  unfold f_X12_readAtom_j66 at hf
  obtain ⟨r2, μ1, e3, hf⟩ := bn_some hf
  have fq1 := (frr_X12_is t0 e3)
  rcases Decidable.em (nrm r2 = 0) with c4 | c4
  · have hf := ite_t c4 hf
    obtain ⟨r6, μ5, e7, hf⟩ := bn_some hf
    have fq2 := fq1.trans (frr_X12_is t0 e7)
    rcases Decidable.em (nrm r6 = 0) with c8 | c8
    · have hf := ite_t c8 hf
      obtain ⟨r10, μ9, e11, hf⟩ := bn_some hf
      have fq3 := fq2.trans (frr_X12_fails t0 e11)
      cases hf; exact fq3
    · have hf := ite_f c8 hf
      obtain ⟨r13, μ12, e14, hf⟩ := bn_some hf
      have fq4 := fq2.trans (h_2 _ _ _ _ _ t0 e14)
      cases hf; exact fq4
  · have hf := ite_f c4 hf
    obtain ⟨r16, μ15, e17, hf⟩ := bn_some hf
    have fq5 := fq1.trans (frr_X12_goesIn t0 e17)
    rcases Decidable.em (nrm r16 = 0) with c18 | c18
    · have hf := ite_t c18 hf
      cases hf; exact fq5
    · have hf := ite_f c18 hf
      obtain ⟨r20, μ19, e21, hf⟩ := bn_some hf
      have fq6 := fq5.trans (h_3 _ _ _ _ _ t0 e21)
      obtain ⟨r23, μ22, e24, hf⟩ := bn_some hf
      have fq7 := fq6.trans (frr_X12_eats t0 e24)
      rcases Decidable.em (nrm r23 = 0) with c25 | c25
      · have hf := ite_t c25 hf
        obtain ⟨r27, μ26, e28, hf⟩ := bn_some hf
        have fq8 := fq7.trans (frr_X12_fails t0 e28)
        cases hf; exact fq8
      · have hf := ite_f c25 hf
        cases hf; exact fq7
theorem frr_w_X12_readAtom_0 (rec : Nat → Int → Int → Mem → Option (Int × Mem)) (h_0 : ∀ (x0 x1 : Int) (μ μ' : Mem) (r : Int), isK x0 12 → rec 0 x0 x1 μ = some (r, μ') → FrR μ μ') (h_1 : ∀ (x0 x1 : Int) (μ μ' : Mem) (r : Int), isK x0 12 → rec 1 x0 x1 μ = some (r, μ') → FrR μ μ') (h_2 : ∀ (x0 x1 : Int) (μ μ' : Mem) (r : Int), isK x0 12 → rec 2 x0 x1 μ = some (r, μ') → FrR μ μ') (h_3 : ∀ (x0 x1 : Int) (μ μ' : Mem) (r : Int), isK x0 12 → rec 3 x0 x1 μ = some (r, μ') → FrR μ μ') (h_4 : ∀ (x0 x1 : Int) (μ μ' : Mem) (r : Int), isK x0 12 → rec 4 x0 x1 μ = some (r, μ') → FrR μ μ') (h_5 : ∀ (x0 x1 : Int) (μ μ' : Mem) (r : Int), isK x0 12 → rec 5 x0 x1 μ = some (r, μ') → FrR μ μ') (h_6 : ∀ (x0 x1 : Int) (μ μ' : Mem) (r : Int), isK x0 12 → rec 6 x0 x1 μ = some (r, μ') → FrR μ μ') {x0 x1 : Int} {μ μ' : Mem} {r : Int} (t0 : isK x0 12) (hf : b_X12_readAtom rec x0 x1 μ = some (r, μ')) : FrR μ μ' := by
  unfold b_X12_readAtom at hf
  obtain ⟨r2, μ1, e3, hf⟩ := bn_some hf
  have fq9 := (frr_X12_is t0 e3)
  rcases Decidable.em (nrm r2 = 0) with c4 | c4
  · have hf := ite_t c4 hf
    rcases Decidable.em (nrm (μ1 x0 11) = 0) with c5 | c5
    · have hf := ite_t c5 hf
      obtain ⟨r7, μ6, e8, hf⟩ := bn_some hf
      have fq10 := fq9.trans (frr_X12_wordOf t0 e8)
      rcases Decidable.em (nrm r7 = nrm (-1)) with c9 | c9
      · have hf := ite_t c9 hf
        exact fq10.trans (frr_w_X12_readAtom_66 _ h_0 h_1 h_2 h_3 h_4 h_5 h_6 t0 hf)
      · have hf := ite_f c9 hf
        obtain ⟨r11, μ10, e12, hf⟩ := bn_some hf
        have fq11 := fq10.trans (frr_X12_wordOf t0 e12)
        obtain ⟨r14, μ13, e15, hf⟩ := bn_some hf
        have fq12 := fq11.trans (frr_X12_codes t0 e15)
        obtain ⟨r17, μ16, e18, hf⟩ := bn_some hf
        have fq13 := fq12.trans (frr_X12_next t0 e18)
        cases hf; exact fq13
    · have hf := ite_f c5 hf
      exact fq9.trans (frr_w_X12_readAtom_66 _ h_0 h_1 h_2 h_3 h_4 h_5 h_6 t0 hf)
  · have hf := ite_f c4 hf
    obtain ⟨r20, μ19, e21, hf⟩ := bn_some hf
    have fq14 := fq9.trans (frr_X12_codes t0 e21)
    obtain ⟨r23, μ22, e24, hf⟩ := bn_some hf
    have fq15 := fq14.trans (frr_X12_next t0 e24)
    cases hf; exact fq15
theorem frr_w_X12_readBoth_5 (rec : Nat → Int → Int → Mem → Option (Int × Mem)) (h_0 : ∀ (x0 x1 : Int) (μ μ' : Mem) (r : Int), isK x0 12 → rec 0 x0 x1 μ = some (r, μ') → FrR μ μ') (h_1 : ∀ (x0 x1 : Int) (μ μ' : Mem) (r : Int), isK x0 12 → rec 1 x0 x1 μ = some (r, μ') → FrR μ μ') (h_2 : ∀ (x0 x1 : Int) (μ μ' : Mem) (r : Int), isK x0 12 → rec 2 x0 x1 μ = some (r, μ') → FrR μ μ') (h_3 : ∀ (x0 x1 : Int) (μ μ' : Mem) (r : Int), isK x0 12 → rec 3 x0 x1 μ = some (r, μ') → FrR μ μ') (h_4 : ∀ (x0 x1 : Int) (μ μ' : Mem) (r : Int), isK x0 12 → rec 4 x0 x1 μ = some (r, μ') → FrR μ μ') (h_5 : ∀ (x0 x1 : Int) (μ μ' : Mem) (r : Int), isK x0 12 → rec 5 x0 x1 μ = some (r, μ') → FrR μ μ') (h_6 : ∀ (x0 x1 : Int) (μ μ' : Mem) (r : Int), isK x0 12 → rec 6 x0 x1 μ = some (r, μ') → FrR μ μ') : ∀ (n : Nat) (x0 x1 : Int) (μ μ' : Mem) (r : Int), isK x0 12 → f_X12_readBoth_w5 rec n x0 x1 μ = some (r, μ') → FrR μ μ' := by
  intro n
  induction n with
  | zero => intro x0 x1 μ μ' r t0 hf; cases hf
  | succ n ih =>
    intro x0 x1 μ μ' r t0 hf
    rw [f_X12_readBoth_w5.eq_2] at hf
    obtain ⟨r2, μ1, e3, hf⟩ := bn_some hf
    have fq1 := (frr_X12_eats t0 e3)
    rcases Decidable.em (nrm r2 = 0) with c4 | c4
    · have hf := ite_t c4 hf
      cases hf; exact fq1
    · have hf := ite_f c4 hf
      obtain ⟨r6, μ5, e7, hf⟩ := bn_some hf
      have fq2 := fq1.trans (h_6 _ _ _ _ _ t0 e7)
      obtain ⟨r9, μ8, e10, hf⟩ := bn_some hf
      have fq3 := fq2.trans (frr_X12_codes t0 e10)
      exact fq3.trans (ih _ _ _ _ _ t0 hf)
theorem frr_w_X12_readBoth_0 (rec : Nat → Int → Int → Mem → Option (Int × Mem)) (h_0 : ∀ (x0 x1 : Int) (μ μ' : Mem) (r : Int), isK x0 12 → rec 0 x0 x1 μ = some (r, μ') → FrR μ μ') (h_1 : ∀ (x0 x1 : Int) (μ μ' : Mem) (r : Int), isK x0 12 → rec 1 x0 x1 μ = some (r, μ') → FrR μ μ') (h_2 : ∀ (x0 x1 : Int) (μ μ' : Mem) (r : Int), isK x0 12 → rec 2 x0 x1 μ = some (r, μ') → FrR μ μ') (h_3 : ∀ (x0 x1 : Int) (μ μ' : Mem) (r : Int), isK x0 12 → rec 3 x0 x1 μ = some (r, μ') → FrR μ μ') (h_4 : ∀ (x0 x1 : Int) (μ μ' : Mem) (r : Int), isK x0 12 → rec 4 x0 x1 μ = some (r, μ') → FrR μ μ') (h_5 : ∀ (x0 x1 : Int) (μ μ' : Mem) (r : Int), isK x0 12 → rec 5 x0 x1 μ = some (r, μ') → FrR μ μ') (h_6 : ∀ (x0 x1 : Int) (μ μ' : Mem) (r : Int), isK x0 12 → rec 6 x0 x1 μ = some (r, μ') → FrR μ μ') {x0 x1 : Int} {μ μ' : Mem} {r : Int} (t0 : isK x0 12) (hf : b_X12_readBoth rec x0 x1 μ = some (r, μ')) : FrR μ μ' := by
  unfold b_X12_readBoth at hf
  obtain ⟨r2, μ1, e3, hf⟩ := bn_some hf
  have fq4 := (h_6 _ _ _ _ _ t0 e3)
  exact fq4.trans (frr_w_X12_readBoth_5 _ h_0 h_1 h_2 h_3 h_4 h_5 h_6 FU _ _ _ _ _ t0 hf)
theorem frr_w_X12_readIf_72 (rec : Nat → Int → Int → Mem → Option (Int × Mem)) (h_0 : ∀ (x0 x1 : Int) (μ μ' : Mem) (r : Int), isK x0 12 → rec 0 x0 x1 μ = some (r, μ') → FrR μ μ') (h_1 : ∀ (x0 x1 : Int) (μ μ' : Mem) (r : Int), isK x0 12 → rec 1 x0 x1 μ = some (r, μ') → FrR μ μ') (h_2 : ∀ (x0 x1 : Int) (μ μ' : Mem) (r : Int), isK x0 12 → rec 2 x0 x1 μ = some (r, μ') → FrR μ μ') (h_3 : ∀ (x0 x1 : Int) (μ μ' : Mem) (r : Int), isK x0 12 → rec 3 x0 x1 μ = some (r, μ') → FrR μ μ') (h_4 : ∀ (x0 x1 : Int) (μ μ' : Mem) (r : Int), isK x0 12 → rec 4 x0 x1 μ = some (r, μ') → FrR μ μ') (h_5 : ∀ (x0 x1 : Int) (μ μ' : Mem) (r : Int), isK x0 12 → rec 5 x0 x1 μ = some (r, μ') → FrR μ μ') (h_6 : ∀ (x0 x1 : Int) (μ μ' : Mem) (r : Int), isK x0 12 → rec 6 x0 x1 μ = some (r, μ') → FrR μ μ') {x0 : Int} {μ μ' : Mem} {r : Int} (t0 : isK x0 12) (hf : f_X12_readIf_j72 rec x0 μ = some (r, μ')) : FrR μ μ' := by
  unfold f_X12_readIf_j72 at hf
  obtain ⟨r2, μ1, e3, hf⟩ := bn_some hf
  have fq1 := (frr_X12_codes t0 e3)
  cases hf; exact fq1
theorem frr_w_X12_readIf_51 (rec : Nat → Int → Int → Mem → Option (Int × Mem)) (h_0 : ∀ (x0 x1 : Int) (μ μ' : Mem) (r : Int), isK x0 12 → rec 0 x0 x1 μ = some (r, μ') → FrR μ μ') (h_1 : ∀ (x0 x1 : Int) (μ μ' : Mem) (r : Int), isK x0 12 → rec 1 x0 x1 μ = some (r, μ') → FrR μ μ') (h_2 : ∀ (x0 x1 : Int) (μ μ' : Mem) (r : Int), isK x0 12 → rec 2 x0 x1 μ = some (r, μ') → FrR μ μ') (h_3 : ∀ (x0 x1 : Int) (μ μ' : Mem) (r : Int), isK x0 12 → rec 3 x0 x1 μ = some (r, μ') → FrR μ μ') (h_4 : ∀ (x0 x1 : Int) (μ μ' : Mem) (r : Int), isK x0 12 → rec 4 x0 x1 μ = some (r, μ') → FrR μ μ') (h_5 : ∀ (x0 x1 : Int) (μ μ' : Mem) (r : Int), isK x0 12 → rec 5 x0 x1 μ = some (r, μ') → FrR μ μ') (h_6 : ∀ (x0 x1 : Int) (μ μ' : Mem) (r : Int), isK x0 12 → rec 6 x0 x1 μ = some (r, μ') → FrR μ μ') {x0 x1 : Int} {μ μ' : Mem} {r : Int} (t0 : isK x0 12) (hf : f_X12_readIf_j51 rec x0 x1 μ = some (r, μ')) : FrR μ μ' := by
  unfold f_X12_readIf_j51 at hf
  obtain ⟨r2, μ1, e3, hf⟩ := bn_some hf
  have fq2 := (h_3 _ _ _ _ _ t0 e3)
  obtain ⟨r5, μ4, e6, hf⟩ := bn_some hf
  have fq3 := fq2.trans (frr_X12_eats t0 e6)
  rcases Decidable.em (nrm r5 = 0) with c7 | c7
  · have hf := ite_t c7 hf
    obtain ⟨r9, μ8, e10, hf⟩ := bn_some hf
    have fq4 := fq3.trans (frr_X12_fails t0 e10)
    exact fq4.trans (frr_w_X12_readIf_72 _ h_0 h_1 h_2 h_3 h_4 h_5 h_6 t0 hf)
  · have hf := ite_f c7 hf
    exact fq3.trans (frr_w_X12_readIf_72 _ h_0 h_1 h_2 h_3 h_4 h_5 h_6 t0 hf)
theorem frr_w_X12_readIf_30 (rec : Nat → Int → Int → Mem → Option (Int × Mem)) (h_0 : ∀ (x0 x1 : Int) (μ μ' : Mem) (r : Int), isK x0 12 → rec 0 x0 x1 μ = some (r, μ') → FrR μ μ') (h_1 : ∀ (x0 x1 : Int) (μ μ' : Mem) (r : Int), isK x0 12 → rec 1 x0 x1 μ = some (r, μ') → FrR μ μ') (h_2 : ∀ (x0 x1 : Int) (μ μ' : Mem) (r : Int), isK x0 12 → rec 2 x0 x1 μ = some (r, μ') → FrR μ μ') (h_3 : ∀ (x0 x1 : Int) (μ μ' : Mem) (r : Int), isK x0 12 → rec 3 x0 x1 μ = some (r, μ') → FrR μ μ') (h_4 : ∀ (x0 x1 : Int) (μ μ' : Mem) (r : Int), isK x0 12 → rec 4 x0 x1 μ = some (r, μ') → FrR μ μ') (h_5 : ∀ (x0 x1 : Int) (μ μ' : Mem) (r : Int), isK x0 12 → rec 5 x0 x1 μ = some (r, μ') → FrR μ μ') (h_6 : ∀ (x0 x1 : Int) (μ μ' : Mem) (r : Int), isK x0 12 → rec 6 x0 x1 μ = some (r, μ') → FrR μ μ') {x0 x1 : Int} {μ μ' : Mem} {r : Int} (t0 : isK x0 12) (hf : f_X12_readIf_j30 rec x0 x1 μ = some (r, μ')) : FrR μ μ' := by
  unfold f_X12_readIf_j30 at hf
  obtain ⟨r2, μ1, e3, hf⟩ := bn_some hf
  have fq5 := (h_3 _ _ _ _ _ t0 e3)
  obtain ⟨r5, μ4, e6, hf⟩ := bn_some hf
  have fq6 := fq5.trans (frr_X12_eats t0 e6)
  rcases Decidable.em (nrm r5 = 0) with c7 | c7
  · have hf := ite_t c7 hf
    obtain ⟨r9, μ8, e10, hf⟩ := bn_some hf
    have fq7 := fq6.trans (frr_X12_fails t0 e10)
    exact fq7.trans (frr_w_X12_readIf_51 _ h_0 h_1 h_2 h_3 h_4 h_5 h_6 t0 hf)
  · have hf := ite_f c7 hf
    exact fq6.trans (frr_w_X12_readIf_51 _ h_0 h_1 h_2 h_3 h_4 h_5 h_6 t0 hf)
theorem frr_w_X12_readIf_0 (rec : Nat → Int → Int → Mem → Option (Int × Mem)) (h_0 : ∀ (x0 x1 : Int) (μ μ' : Mem) (r : Int), isK x0 12 → rec 0 x0 x1 μ = some (r, μ') → FrR μ μ') (h_1 : ∀ (x0 x1 : Int) (μ μ' : Mem) (r : Int), isK x0 12 → rec 1 x0 x1 μ = some (r, μ') → FrR μ μ') (h_2 : ∀ (x0 x1 : Int) (μ μ' : Mem) (r : Int), isK x0 12 → rec 2 x0 x1 μ = some (r, μ') → FrR μ μ') (h_3 : ∀ (x0 x1 : Int) (μ μ' : Mem) (r : Int), isK x0 12 → rec 3 x0 x1 μ = some (r, μ') → FrR μ μ') (h_4 : ∀ (x0 x1 : Int) (μ μ' : Mem) (r : Int), isK x0 12 → rec 4 x0 x1 μ = some (r, μ') → FrR μ μ') (h_5 : ∀ (x0 x1 : Int) (μ μ' : Mem) (r : Int), isK x0 12 → rec 5 x0 x1 μ = some (r, μ') → FrR μ μ') (h_6 : ∀ (x0 x1 : Int) (μ μ' : Mem) (r : Int), isK x0 12 → rec 6 x0 x1 μ = some (r, μ') → FrR μ μ') {x0 x1 : Int} {μ μ' : Mem} {r : Int} (t0 : isK x0 12) (hf : b_X12_readIf rec x0 x1 μ = some (r, μ')) : FrR μ μ' := by
  unfold b_X12_readIf at hf
  obtain ⟨r2, μ1, e3, hf⟩ := bn_some hf
  have fq8 := (frr_X12_goesIn t0 e3)
  rcases Decidable.em (nrm r2 = 0) with c4 | c4
  · have hf := ite_t c4 hf
    cases hf; exact fq8
  · have hf := ite_f c4 hf
    obtain ⟨r6, μ5, e7, hf⟩ := bn_some hf
    have fq9 := fq8.trans (h_5 _ _ _ _ _ t0 e7)
    obtain ⟨r9, μ8, e10, hf⟩ := bn_some hf
    have fq10 := fq9.trans (frr_X12_eats t0 e10)
    rcases Decidable.em (nrm r9 = 0) with c11 | c11
    · have hf := ite_t c11 hf
      obtain ⟨r13, μ12, e14, hf⟩ := bn_some hf
      have fq11 := fq10.trans (frr_X12_fails t0 e14)
      exact fq11.trans (frr_w_X12_readIf_30 _ h_0 h_1 h_2 h_3 h_4 h_5 h_6 t0 hf)
    · have hf := ite_f c11 hf
      exact fq10.trans (frr_w_X12_readIf_30 _ h_0 h_1 h_2 h_3 h_4 h_5 h_6 t0 hf)
theorem frr_w_X12_readSum_41 (rec : Nat → Int → Int → Mem → Option (Int × Mem)) (h_0 : ∀ (x0 x1 : Int) (μ μ' : Mem) (r : Int), isK x0 12 → rec 0 x0 x1 μ = some (r, μ') → FrR μ μ') (h_1 : ∀ (x0 x1 : Int) (μ μ' : Mem) (r : Int), isK x0 12 → rec 1 x0 x1 μ = some (r, μ') → FrR μ μ') (h_2 : ∀ (x0 x1 : Int) (μ μ' : Mem) (r : Int), isK x0 12 → rec 2 x0 x1 μ = some (r, μ') → FrR μ μ') (h_3 : ∀ (x0 x1 : Int) (μ μ' : Mem) (r : Int), isK x0 12 → rec 3 x0 x1 μ = some (r, μ') → FrR μ μ') (h_4 : ∀ (x0 x1 : Int) (μ μ' : Mem) (r : Int), isK x0 12 → rec 4 x0 x1 μ = some (r, μ') → FrR μ μ') (h_5 : ∀ (x0 x1 : Int) (μ μ' : Mem) (r : Int), isK x0 12 → rec 5 x0 x1 μ = some (r, μ') → FrR μ μ') (h_6 : ∀ (x0 x1 : Int) (μ μ' : Mem) (r : Int), isK x0 12 → rec 6 x0 x1 μ = some (r, μ') → FrR μ μ') (k5 : Int → Int → Mem → Option (Int × Mem)) (h5 : ∀ (x0 x1 : Int) (μ μ' : Mem) (r : Int), isK x0 12 → k5 x0 x1 μ = some (r, μ') → FrR μ μ') {x0 x1 s0 : Int} {μ μ' : Mem} {r : Int} (t0 : isK x0 12) (hf : f_X12_readSum_j41 rec k5 x0 x1 s0 μ = some (r, μ')) : FrR μ μ' := by
  unfold f_X12_readSum_j41 at hf
  obtain ⟨r2, μ1, e3, hf⟩ := bn_some hf
  have fq1 := (frr_X12_next t0 e3)
  obtain ⟨r5, μ4, e6, hf⟩ := bn_some hf
  have fq2 := fq1.trans (h_4 _ _ _ _ _ t0 e6)
  obtain ⟨r8, μ7, e9, hf⟩ := bn_some hf
  have fq3 := fq2.trans (frr_X12_codes t0 e9)
  exact fq3.trans (h5 _ _ _ _ _ t0 hf)
theorem frr_w_X12_readSum_23 (rec : Nat → Int → Int → Mem → Option (Int × Mem)) (h_0 : ∀ (x0 x1 : Int) (μ μ' : Mem) (r : Int), isK x0 12 → rec 0 x0 x1 μ = some (r, μ') → FrR μ μ') (h_1 : ∀ (x0 x1 : Int) (μ μ' : Mem) (r : Int), isK x0 12 → rec 1 x0 x1 μ = some (r, μ') → FrR μ μ') (h_2 : ∀ (x0 x1 : Int) (μ μ' : Mem) (r : Int), isK x0 12 → rec 2 x0 x1 μ = some (r, μ') → FrR μ μ') (h_3 : ∀ (x0 x1 : Int) (μ μ' : Mem) (r : Int), isK x0 12 → rec 3 x0 x1 μ = some (r, μ') → FrR μ μ') (h_4 : ∀ (x0 x1 : Int) (μ μ' : Mem) (r : Int), isK x0 12 → rec 4 x0 x1 μ = some (r, μ') → FrR μ μ') (h_5 : ∀ (x0 x1 : Int) (μ μ' : Mem) (r : Int), isK x0 12 → rec 5 x0 x1 μ = some (r, μ') → FrR μ μ') (h_6 : ∀ (x0 x1 : Int) (μ μ' : Mem) (r : Int), isK x0 12 → rec 6 x0 x1 μ = some (r, μ') → FrR μ μ') (k5 : Int → Int → Mem → Option (Int × Mem)) (h5 : ∀ (x0 x1 : Int) (μ μ' : Mem) (r : Int), isK x0 12 → k5 x0 x1 μ = some (r, μ') → FrR μ μ') {x0 x1 : Int} {μ μ' : Mem} {r : Int} (t0 : isK x0 12) (hf : f_X12_readSum_j23 rec k5 x0 x1 μ = some (r, μ')) : FrR μ μ' := by
  unfold f_X12_readSum_j23 at hf
  rcases Decidable.em (nrm (μ x0 9) = nrm 32) with c1 | c1
  · have hf := ite_t c1 hf
    exact frr_w_X12_readSum_41 _ h_0 h_1 h_2 h_3 h_4 h_5 h_6 _ h5 t0 hf
  · have hf := ite_f c1 hf
    exact frr_w_X12_readSum_41 _ h_0 h_1 h_2 h_3 h_4 h_5 h_6 _ h5 t0 hf
theorem frr_w_X12_readSum_5 (rec : Nat → Int → Int → Mem → Option (Int × Mem)) (h_0 : ∀ (x0 x1 : Int) (μ μ' : Mem) (r : Int), isK x0 12 → rec 0 x0 x1 μ = some (r, μ') → FrR μ μ') (h_1 : ∀ (x0 x1 : Int) (μ μ' : Mem) (r : Int), isK x0 12 → rec 1 x0 x1 μ = some (r, μ') → FrR μ μ') (h_2 : ∀ (x0 x1 : Int) (μ μ' : Mem) (r : Int), isK x0 12 → rec 2 x0 x1 μ = some (r, μ') → FrR μ μ') (h_3 : ∀ (x0 x1 : Int) (μ μ' : Mem) (r : Int), isK x0 12 → rec 3 x0 x1 μ = some (r, μ') → FrR μ μ') (h_4 : ∀ (x0 x1 : Int) (μ μ' : Mem) (r : Int), isK x0 12 → rec 4 x0 x1 μ = some (r, μ') → FrR μ μ') (h_5 : ∀ (x0 x1 : Int) (μ μ' : Mem) (r : Int), isK x0 12 → rec 5 x0 x1 μ = some (r, μ') → FrR μ μ') (h_6 : ∀ (x0 x1 : Int) (μ μ' : Mem) (r : Int), isK x0 12 → rec 6 x0 x1 μ = some (r, μ') → FrR μ μ') : ∀ (n : Nat) (x0 x1 : Int) (μ μ' : Mem) (r : Int), isK x0 12 → f_X12_readSum_w5 rec n x0 x1 μ = some (r, μ') → FrR μ μ' := by
  intro n
  induction n with
  | zero => intro x0 x1 μ μ' r t0 hf; cases hf
  | succ n ih =>
    intro x0 x1 μ μ' r t0 hf
    rw [f_X12_readSum_w5.eq_2] at hf
    obtain ⟨r2, μ1, e3, hf⟩ := bn_some hf
    have fq4 := (frr_X12_is t0 e3)
    rcases Decidable.em (nrm r2 = 0) with c4 | c4
    · have hf := ite_t c4 hf
      obtain ⟨r6, μ5, e7, hf⟩ := bn_some hf
      have fq5 := fq4.trans (frr_X12_is t0 e7)
      rcases Decidable.em (nrm r6 = 0) with c8 | c8
      · have hf := ite_t c8 hf
        cases hf; exact fq5
      · have hf := ite_f c8 hf
        exact fq5.trans (frr_w_X12_readSum_23 _ h_0 h_1 h_2 h_3 h_4 h_5 h_6 _ ih t0 hf)
    · have hf := ite_f c4 hf
      exact fq4.trans (frr_w_X12_readSum_23 _ h_0 h_1 h_2 h_3 h_4 h_5 h_6 _ ih t0 hf)
theorem frr_w_X12_readSum_0 (rec : Nat → Int → Int → Mem → Option (Int × Mem)) (h_0 : ∀ (x0 x1 : Int) (μ μ' : Mem) (r : Int), isK x0 12 → rec 0 x0 x1 μ = some (r, μ') → FrR μ μ') (h_1 : ∀ (x0 x1 : Int) (μ μ' : Mem) (r : Int), isK x0 12 → rec 1 x0 x1 μ = some (r, μ') → FrR μ μ') (h_2 : ∀ (x0 x1 : Int) (μ μ' : Mem) (r : Int), isK x0 12 → rec 2 x0 x1 μ = some (r, μ') → FrR μ μ') (h_3 : ∀ (x0 x1 : Int) (μ μ' : Mem) (r : Int), isK x0 12 → rec 3 x0 x1 μ = some (r, μ') → FrR μ μ') (h_4 : ∀ (x0 x1 : Int) (μ μ' : Mem) (r : Int), isK x0 12 → rec 4 x0 x1 μ = some (r, μ') → FrR μ μ') (h_5 : ∀ (x0 x1 : Int) (μ μ' : Mem) (r : Int), isK x0 12 → rec 5 x0 x1 μ = some (r, μ') → FrR μ μ') (h_6 : ∀ (x0 x1 : Int) (μ μ' : Mem) (r : Int), isK x0 12 → rec 6 x0 x1 μ = some (r, μ') → FrR μ μ') {x0 x1 : Int} {μ μ' : Mem} {r : Int} (t0 : isK x0 12) (hf : b_X12_readSum rec x0 x1 μ = some (r, μ')) : FrR μ μ' := by
  unfold b_X12_readSum at hf
  obtain ⟨r2, μ1, e3, hf⟩ := bn_some hf
  have fq6 := (h_4 _ _ _ _ _ t0 e3)
  exact fq6.trans (frr_w_X12_readSum_5 _ h_0 h_1 h_2 h_3 h_4 h_5 h_6 FU _ _ _ _ _ t0 hf)
theorem frr_w_X12_readTerm_5 (rec : Nat → Int → Int → Mem → Option (Int × Mem)) (h_0 : ∀ (x0 x1 : Int) (μ μ' : Mem) (r : Int), isK x0 12 → rec 0 x0 x1 μ = some (r, μ') → FrR μ μ') (h_1 : ∀ (x0 x1 : Int) (μ μ' : Mem) (r : Int), isK x0 12 → rec 1 x0 x1 μ = some (r, μ') → FrR μ μ') (h_2 : ∀ (x0 x1 : Int) (μ μ' : Mem) (r : Int), isK x0 12 → rec 2 x0 x1 μ = some (r, μ') → FrR μ μ') (h_3 : ∀ (x0 x1 : Int) (μ μ' : Mem) (r : Int), isK x0 12 → rec 3 x0 x1 μ = some (r, μ') → FrR μ μ') (h_4 : ∀ (x0 x1 : Int) (μ μ' : Mem) (r : Int), isK x0 12 → rec 4 x0 x1 μ = some (r, μ') → FrR μ μ') (h_5 : ∀ (x0 x1 : Int) (μ μ' : Mem) (r : Int), isK x0 12 → rec 5 x0 x1 μ = some (r, μ') → FrR μ μ') (h_6 : ∀ (x0 x1 : Int) (μ μ' : Mem) (r : Int), isK x0 12 → rec 6 x0 x1 μ = some (r, μ') → FrR μ μ') : ∀ (n : Nat) (x0 x1 : Int) (μ μ' : Mem) (r : Int), isK x0 12 → f_X12_readTerm_w5 rec n x0 x1 μ = some (r, μ') → FrR μ μ' := by
  intro n
  induction n with
  | zero => intro x0 x1 μ μ' r t0 hf; cases hf
  | succ n ih =>
    intro x0 x1 μ μ' r t0 hf
    rw [f_X12_readTerm_w5.eq_2] at hf
    obtain ⟨r2, μ1, e3, hf⟩ := bn_some hf
    have fq1 := (frr_X12_eats t0 e3)
    rcases Decidable.em (nrm r2 = 0) with c4 | c4
    · have hf := ite_t c4 hf
      cases hf; exact fq1
    · have hf := ite_f c4 hf
      obtain ⟨r6, μ5, e7, hf⟩ := bn_some hf
      have fq2 := fq1.trans (h_0 _ _ _ _ _ t0 e7)
      obtain ⟨r9, μ8, e10, hf⟩ := bn_some hf
      have fq3 := fq2.trans (frr_X12_codes t0 e10)
      exact fq3.trans (ih _ _ _ _ _ t0 hf)
theorem frr_w_X12_readTerm_0 (rec : Nat → Int → Int → Mem → Option (Int × Mem)) (h_0 : ∀ (x0 x1 : Int) (μ μ' : Mem) (r : Int), isK x0 12 → rec 0 x0 x1 μ = some (r, μ') → FrR μ μ') (h_1 : ∀ (x0 x1 : Int) (μ μ' : Mem) (r : Int), isK x0 12 → rec 1 x0 x1 μ = some (r, μ') → FrR μ μ') (h_2 : ∀ (x0 x1 : Int) (μ μ' : Mem) (r : Int), isK x0 12 → rec 2 x0 x1 μ = some (r, μ') → FrR μ μ') (h_3 : ∀ (x0 x1 : Int) (μ μ' : Mem) (r : Int), isK x0 12 → rec 3 x0 x1 μ = some (r, μ') → FrR μ μ') (h_4 : ∀ (x0 x1 : Int) (μ μ' : Mem) (r : Int), isK x0 12 → rec 4 x0 x1 μ = some (r, μ') → FrR μ μ') (h_5 : ∀ (x0 x1 : Int) (μ μ' : Mem) (r : Int), isK x0 12 → rec 5 x0 x1 μ = some (r, μ') → FrR μ μ') (h_6 : ∀ (x0 x1 : Int) (μ μ' : Mem) (r : Int), isK x0 12 → rec 6 x0 x1 μ = some (r, μ') → FrR μ μ') {x0 x1 : Int} {μ μ' : Mem} {r : Int} (t0 : isK x0 12) (hf : b_X12_readTerm rec x0 x1 μ = some (r, μ')) : FrR μ μ' := by
  unfold b_X12_readTerm at hf
  obtain ⟨r2, μ1, e3, hf⟩ := bn_some hf
  have fq4 := (h_0 _ _ _ _ _ t0 e3)
  exact fq4.trans (frr_w_X12_readTerm_5 _ h_0 h_1 h_2 h_3 h_4 h_5 h_6 FU _ _ _ _ _ t0 hf)
theorem frr_w_X12_readTruth_5 (rec : Nat → Int → Int → Mem → Option (Int × Mem)) (h_0 : ∀ (x0 x1 : Int) (μ μ' : Mem) (r : Int), isK x0 12 → rec 0 x0 x1 μ = some (r, μ') → FrR μ μ') (h_1 : ∀ (x0 x1 : Int) (μ μ' : Mem) (r : Int), isK x0 12 → rec 1 x0 x1 μ = some (r, μ') → FrR μ μ') (h_2 : ∀ (x0 x1 : Int) (μ μ' : Mem) (r : Int), isK x0 12 → rec 2 x0 x1 μ = some (r, μ') → FrR μ μ') (h_3 : ∀ (x0 x1 : Int) (μ μ' : Mem) (r : Int), isK x0 12 → rec 3 x0 x1 μ = some (r, μ') → FrR μ μ') (h_4 : ∀ (x0 x1 : Int) (μ μ' : Mem) (r : Int), isK x0 12 → rec 4 x0 x1 μ = some (r, μ') → FrR μ μ') (h_5 : ∀ (x0 x1 : Int) (μ μ' : Mem) (r : Int), isK x0 12 → rec 5 x0 x1 μ = some (r, μ') → FrR μ μ') (h_6 : ∀ (x0 x1 : Int) (μ μ' : Mem) (r : Int), isK x0 12 → rec 6 x0 x1 μ = some (r, μ') → FrR μ μ') : ∀ (n : Nat) (x0 x1 : Int) (μ μ' : Mem) (r : Int), isK x0 12 → f_X12_readTruth_w5 rec n x0 x1 μ = some (r, μ') → FrR μ μ' := by
  intro n
  induction n with
  | zero => intro x0 x1 μ μ' r t0 hf; cases hf
  | succ n ih =>
    intro x0 x1 μ μ' r t0 hf
    rw [f_X12_readTruth_w5.eq_2] at hf
    obtain ⟨r2, μ1, e3, hf⟩ := bn_some hf
    have fq1 := (frr_X12_eats t0 e3)
    rcases Decidable.em (nrm r2 = 0) with c4 | c4
    · have hf := ite_t c4 hf
      cases hf; exact fq1
    · have hf := ite_f c4 hf
      obtain ⟨r6, μ5, e7, hf⟩ := bn_some hf
      have fq2 := fq1.trans (h_1 _ _ _ _ _ t0 e7)
      obtain ⟨r9, μ8, e10, hf⟩ := bn_some hf
      have fq3 := fq2.trans (frr_X12_codes t0 e10)
      exact fq3.trans (ih _ _ _ _ _ t0 hf)
theorem frr_w_X12_readTruth_0 (rec : Nat → Int → Int → Mem → Option (Int × Mem)) (h_0 : ∀ (x0 x1 : Int) (μ μ' : Mem) (r : Int), isK x0 12 → rec 0 x0 x1 μ = some (r, μ') → FrR μ μ') (h_1 : ∀ (x0 x1 : Int) (μ μ' : Mem) (r : Int), isK x0 12 → rec 1 x0 x1 μ = some (r, μ') → FrR μ μ') (h_2 : ∀ (x0 x1 : Int) (μ μ' : Mem) (r : Int), isK x0 12 → rec 2 x0 x1 μ = some (r, μ') → FrR μ μ') (h_3 : ∀ (x0 x1 : Int) (μ μ' : Mem) (r : Int), isK x0 12 → rec 3 x0 x1 μ = some (r, μ') → FrR μ μ') (h_4 : ∀ (x0 x1 : Int) (μ μ' : Mem) (r : Int), isK x0 12 → rec 4 x0 x1 μ = some (r, μ') → FrR μ μ') (h_5 : ∀ (x0 x1 : Int) (μ μ' : Mem) (r : Int), isK x0 12 → rec 5 x0 x1 μ = some (r, μ') → FrR μ μ') (h_6 : ∀ (x0 x1 : Int) (μ μ' : Mem) (r : Int), isK x0 12 → rec 6 x0 x1 μ = some (r, μ') → FrR μ μ') {x0 x1 : Int} {μ μ' : Mem} {r : Int} (t0 : isK x0 12) (hf : b_X12_readTruth rec x0 x1 μ = some (r, μ')) : FrR μ μ' := by
  unfold b_X12_readTruth at hf
  obtain ⟨r2, μ1, e3, hf⟩ := bn_some hf
  have fq4 := (h_1 _ _ _ _ _ t0 e3)
  exact fq4.trans (frr_w_X12_readTruth_5 _ h_0 h_1 h_2 h_3 h_4 h_5 h_6 FU _ _ _ _ _ t0 hf)
theorem frr_w_X12_readUnit_151 (rec : Nat → Int → Int → Mem → Option (Int × Mem)) (h_0 : ∀ (x0 x1 : Int) (μ μ' : Mem) (r : Int), isK x0 12 → rec 0 x0 x1 μ = some (r, μ') → FrR μ μ') (h_1 : ∀ (x0 x1 : Int) (μ μ' : Mem) (r : Int), isK x0 12 → rec 1 x0 x1 μ = some (r, μ') → FrR μ μ') (h_2 : ∀ (x0 x1 : Int) (μ μ' : Mem) (r : Int), isK x0 12 → rec 2 x0 x1 μ = some (r, μ') → FrR μ μ') (h_3 : ∀ (x0 x1 : Int) (μ μ' : Mem) (r : Int), isK x0 12 → rec 3 x0 x1 μ = some (r, μ') → FrR μ μ') (h_4 : ∀ (x0 x1 : Int) (μ μ' : Mem) (r : Int), isK x0 12 → rec 4 x0 x1 μ = some (r, μ') → FrR μ μ') (h_5 : ∀ (x0 x1 : Int) (μ μ' : Mem) (r : Int), isK x0 12 → rec 5 x0 x1 μ = some (r, μ') → FrR μ μ') (h_6 : ∀ (x0 x1 : Int) (μ μ' : Mem) (r : Int), isK x0 12 → rec 6 x0 x1 μ = some (r, μ') → FrR μ μ') {x0 x1 x2 : Int} {μ μ' : Mem} {r : Int} (t0 : isK x0 12) (hf : f_X12_readUnit_j151 rec x0 x1 x2 μ = some (r, μ')) : FrR μ μ' := by
  unfold f_X12_readUnit_j151 at hf
  obtain ⟨r2, μ1, e3, hf⟩ := bn_some hf
  have fq1 := (h_3 _ _ _ _ _ t0 e3)
  obtain ⟨r5, μ4, e6, hf⟩ := bn_some hf
  have fq2 := fq1.trans (frr_X12_codes t0 e6)
  cases hf; exact fq2
theorem frr_w_X12_readUnit_139 (rec : Nat → Int → Int → Mem → Option (Int × Mem)) (h_0 : ∀ (x0 x1 : Int) (μ μ' : Mem) (r : Int), isK x0 12 → rec 0 x0 x1 μ = some (r, μ') → FrR μ μ') (h_1 : ∀ (x0 x1 : Int) (μ μ' : Mem) (r : Int), isK x0 12 → rec 1 x0 x1 μ = some (r, μ') → FrR μ μ') (h_2 : ∀ (x0 x1 : Int) (μ μ' : Mem) (r : Int), isK x0 12 → rec 2 x0 x1 μ = some (r, μ') → FrR μ μ') (h_3 : ∀ (x0 x1 : Int) (μ μ' : Mem) (r : Int), isK x0 12 → rec 3 x0 x1 μ = some (r, μ') → FrR μ μ') (h_4 : ∀ (x0 x1 : Int) (μ μ' : Mem) (r : Int), isK x0 12 → rec 4 x0 x1 μ = some (r, μ') → FrR μ μ') (h_5 : ∀ (x0 x1 : Int) (μ μ' : Mem) (r : Int), isK x0 12 → rec 5 x0 x1 μ = some (r, μ') → FrR μ μ') (h_6 : ∀ (x0 x1 : Int) (μ μ' : Mem) (r : Int), isK x0 12 → rec 6 x0 x1 μ = some (r, μ') → FrR μ μ') {x0 x1 x2 : Int} {μ μ' : Mem} {r : Int} (t0 : isK x0 12) (hf : f_X12_readUnit_j139 rec x0 x1 x2 μ = some (r, μ')) : FrR μ μ' := by
  unfold f_X12_readUnit_j139 at hf
  obtain ⟨r2, μ1, e3, hf⟩ := bn_some hf
  have fq3 := (frr_X12_next t0 e3)
  exact fq3.trans (frr_w_X12_readUnit_151 _ h_0 h_1 h_2 h_3 h_4 h_5 h_6 t0 hf)
theorem frr_w_X12_readUnit_111 (rec : Nat → Int → Int → Mem → Option (Int × Mem)) (h_0 : ∀ (x0 x1 : Int) (μ μ' : Mem) (r : Int), isK x0 12 → rec 0 x0 x1 μ = some (r, μ') → FrR μ μ') (h_1 : ∀ (x0 x1 : Int) (μ μ' : Mem) (r : Int), isK x0 12 → rec 1 x0 x1 μ = some (r, μ') → FrR μ μ') (h_2 : ∀ (x0 x1 : Int) (μ μ' : Mem) (r : Int), isK x0 12 → rec 2 x0 x1 μ = some (r, μ') → FrR μ μ') (h_3 : ∀ (x0 x1 : Int) (μ μ' : Mem) (r : Int), isK x0 12 → rec 3 x0 x1 μ = some (r, μ') → FrR μ μ') (h_4 : ∀ (x0 x1 : Int) (μ μ' : Mem) (r : Int), isK x0 12 → rec 4 x0 x1 μ = some (r, μ') → FrR μ μ') (h_5 : ∀ (x0 x1 : Int) (μ μ' : Mem) (r : Int), isK x0 12 → rec 5 x0 x1 μ = some (r, μ') → FrR μ μ') (h_6 : ∀ (x0 x1 : Int) (μ μ' : Mem) (r : Int), isK x0 12 → rec 6 x0 x1 μ = some (r, μ') → FrR μ μ') {x0 x1 s0 : Int} {μ μ' : Mem} {r : Int} (t0 : isK x0 12) (hf : f_X12_readUnit_j111 rec x0 x1 s0 μ = some (r, μ')) : FrR μ μ' := by
  unfold f_X12_readUnit_j111 at hf
  obtain ⟨r2, μ1, e3, hf⟩ := bn_some hf
  have fq4 := (frr_X12_is t0 e3)
  rcases Decidable.em (nrm r2 = 0) with c4 | c4
  · have hf := ite_t c4 hf
    obtain ⟨r6, μ5, e7, hf⟩ := bn_some hf
    have fq5 := fq4.trans (frr_X12_is t0 e7)
    rcases Decidable.em (nrm r6 = 0) with c8 | c8
    · have hf := ite_t c8 hf
      obtain ⟨r10, μ9, e11, hf⟩ := bn_some hf
      have fq6 := fq5.trans (frr_X12_is t0 e11)
      rcases Decidable.em (nrm r10 = 0) with c12 | c12
      · have hf := ite_t c12 hf
        obtain ⟨r14, μ13, e15, hf⟩ := bn_some hf
        have fq7 := fq6.trans (frr_X12_fails t0 e15)
        exact fq7.trans (frr_w_X12_readUnit_151 _ h_0 h_1 h_2 h_3 h_4 h_5 h_6 t0 hf)
      · have hf := ite_f c12 hf
        exact fq6.trans (frr_w_X12_readUnit_139 _ h_0 h_1 h_2 h_3 h_4 h_5 h_6 t0 hf)
    · have hf := ite_f c8 hf
      exact fq5.trans (frr_w_X12_readUnit_139 _ h_0 h_1 h_2 h_3 h_4 h_5 h_6 t0 hf)
  · have hf := ite_f c4 hf
    exact fq4.trans (frr_w_X12_readUnit_139 _ h_0 h_1 h_2 h_3 h_4 h_5 h_6 t0 hf)
theorem frr_w_X12_readUnit_0 (rec : Nat → Int → Int → Mem → Option (Int × Mem)) (h_0 : ∀ (x0 x1 : Int) (μ μ' : Mem) (r : Int), isK x0 12 → rec 0 x0 x1 μ = some (r, μ') → FrR μ μ') (h_1 : ∀ (x0 x1 : Int) (μ μ' : Mem) (r : Int), isK x0 12 → rec 1 x0 x1 μ = some (r, μ') → FrR μ μ') (h_2 : ∀ (x0 x1 : Int) (μ μ' : Mem) (r : Int), isK x0 12 → rec 2 x0 x1 μ = some (r, μ') → FrR μ μ') (h_3 : ∀ (x0 x1 : Int) (μ μ' : Mem) (r : Int), isK x0 12 → rec 3 x0 x1 μ = some (r, μ') → FrR μ μ') (h_4 : ∀ (x0 x1 : Int) (μ μ' : Mem) (r : Int), isK x0 12 → rec 4 x0 x1 μ = some (r, μ') → FrR μ μ') (h_5 : ∀ (x0 x1 : Int) (μ μ' : Mem) (r : Int), isK x0 12 → rec 5 x0 x1 μ = some (r, μ') → FrR μ μ') (h_6 : ∀ (x0 x1 : Int) (μ μ' : Mem) (r : Int), isK x0 12 → rec 6 x0 x1 μ = some (r, μ') → FrR μ μ') {x0 x1 : Int} {μ μ' : Mem} {r : Int} (t0 : isK x0 12) (hf : b_X12_readUnit rec x0 x1 μ = some (r, μ')) : FrR μ μ' := by
  unfold b_X12_readUnit at hf
  obtain ⟨r2, μ1, e3, hf⟩ := bn_some hf
  have fq8 := (frr_X12_is t0 e3)
  rcases Decidable.em (nrm r2 = 0) with c4 | c4
  · have hf := ite_t c4 hf
    obtain ⟨r6, μ5, e7, hf⟩ := bn_some hf
    have fq9 := fq8.trans (frr_X12_is t0 e7)
    rcases Decidable.em (nrm r6 = 0) with c8 | c8
    · have hf := ite_t c8 hf
      obtain ⟨r10, μ9, e11, hf⟩ := bn_some hf
      have fq10 := fq9.trans (h_3 _ _ _ _ _ t0 e11)
      obtain ⟨r13, μ12, e14, hf⟩ := bn_some hf
      have fq11 := fq10.trans (frr_X12_is t0 e14)
      rcases Decidable.em (nrm r13 = 0) with c15 | c15
      · have hf := ite_t c15 hf
        obtain ⟨r17, μ16, e18, hf⟩ := bn_some hf
        have fq12 := fq11.trans (frr_X12_is t0 e18)
        rcases Decidable.em (nrm r17 = 0) with c19 | c19
        · have hf := ite_t c19 hf
          exact fq12.trans (frr_w_X12_readUnit_111 _ h_0 h_1 h_2 h_3 h_4 h_5 h_6 t0 hf)
        · have hf := ite_f c19 hf
          exact fq12.trans (frr_w_X12_readUnit_111 _ h_0 h_1 h_2 h_3 h_4 h_5 h_6 t0 hf)
      · have hf := ite_f c15 hf
        exact fq11.trans (frr_w_X12_readUnit_111 _ h_0 h_1 h_2 h_3 h_4 h_5 h_6 t0 hf)
    · have hf := ite_f c8 hf
      obtain ⟨r21, μ20, e22, hf⟩ := bn_some hf
      have fq13 := fq9.trans (frr_X12_goesIn t0 e22)
      rcases Decidable.em (nrm r21 = 0) with c23 | c23
      · have hf := ite_t c23 hf
        cases hf; exact fq13
      · have hf := ite_f c23 hf
        obtain ⟨r25, μ24, e26, hf⟩ := bn_some hf
        have fq14 := fq13.trans (h_5 _ _ _ _ _ t0 e26)
        obtain ⟨r28, μ27, e29, hf⟩ := bn_some hf
        have fq15 := fq14.trans (frr_X12_eats t0 e29)
        rcases Decidable.em (nrm r28 = 0) with c30 | c30
        · have hf := ite_t c30 hf
          obtain ⟨r32, μ31, e33, hf⟩ := bn_some hf
          have fq16 := fq15.trans (frr_X12_fails t0 e33)
          cases hf; exact fq16
        · have hf := ite_f c30 hf
          cases hf; exact fq15
  · have hf := ite_f c4 hf
    obtain ⟨r35, μ34, e36, hf⟩ := bn_some hf
    have fq17 := fq8.trans (frr_X12_goesIn t0 e36)
    rcases Decidable.em (nrm r35 = 0) with c37 | c37
    · have hf := ite_t c37 hf
      cases hf; exact fq17
    · have hf := ite_f c37 hf
      obtain ⟨r39, μ38, e40, hf⟩ := bn_some hf
      have fq18 := fq17.trans (h_6 _ _ _ _ _ t0 e40)
      obtain ⟨r42, μ41, e43, hf⟩ := bn_some hf
      have fq19 := fq18.trans (frr_X12_codes t0 e43)
      cases hf; exact fq19
theorem frrg_X12_readAtom : ∀ n0 : Nat, (∀ (x0 x1 : Int) (μ μ' : Mem) (r : Int), isK x0 12 → g_X12_readAtom n0 0 x0 x1 μ = some (r, μ') → FrR μ μ') ∧ (∀ (x0 x1 : Int) (μ μ' : Mem) (r : Int), isK x0 12 → g_X12_readAtom n0 1 x0 x1 μ = some (r, μ') → FrR μ μ') ∧ (∀ (x0 x1 : Int) (μ μ' : Mem) (r : Int), isK x0 12 → g_X12_readAtom n0 2 x0 x1 μ = some (r, μ') → FrR μ μ') ∧ (∀ (x0 x1 : Int) (μ μ' : Mem) (r : Int), isK x0 12 → g_X12_readAtom n0 3 x0 x1 μ = some (r, μ') → FrR μ μ') ∧ (∀ (x0 x1 : Int) (μ μ' : Mem) (r : Int), isK x0 12 → g_X12_readAtom n0 4 x0 x1 μ = some (r, μ') → FrR μ μ') ∧ (∀ (x0 x1 : Int) (μ μ' : Mem) (r : Int), isK x0 12 → g_X12_readAtom n0 5 x0 x1 μ = some (r, μ') → FrR μ μ') ∧ (∀ (x0 x1 : Int) (μ μ' : Mem) (r : Int), isK x0 12 → g_X12_readAtom n0 6 x0 x1 μ = some (r, μ') → FrR μ μ') := by
  intro n0
  induction n0 with
  | zero => exact ⟨fun _ _ _ _ _ _ hf => (by cases hf), fun _ _ _ _ _ _ hf => (by cases hf), fun _ _ _ _ _ _ hf => (by cases hf), fun _ _ _ _ _ _ hf => (by cases hf), fun _ _ _ _ _ _ hf => (by cases hf), fun _ _ _ _ _ _ hf => (by cases hf), fun _ _ _ _ _ _ hf => (by cases hf)⟩
  | succ n0 ih =>
    obtain ⟨h_0, h_1, h_2, h_3, h_4, h_5, h_6⟩ := ih
    refine ⟨?_, ?_, ?_, ?_, ?_, ?_, ?_⟩
    · intro x0 x1 μ μ' r t0 hf
      rw [g_X12_readAtom.eq_2] at hf
      have hf := ite_t rfl hf
      exact frr_w_X12_readAtom_0 _ h_0 h_1 h_2 h_3 h_4 h_5 h_6 t0 hf
    · intro x0 x1 μ μ' r t0 hf
      rw [g_X12_readAtom.eq_2] at hf
      have hf := ite_t rfl (ite_f (by decide) hf)
      exact frr_w_X12_readBoth_0 _ h_0 h_1 h_2 h_3 h_4 h_5 h_6 t0 hf
    · intro x0 x1 μ μ' r t0 hf
      rw [g_X12_readAtom.eq_2] at hf
      have hf := ite_t rfl (ite_f (by decide) (ite_f (by decide) hf))
      exact frr_w_X12_readIf_0 _ h_0 h_1 h_2 h_3 h_4 h_5 h_6 t0 hf
    · intro x0 x1 μ μ' r t0 hf
      rw [g_X12_readAtom.eq_2] at hf
      have hf := ite_t rfl (ite_f (by decide) (ite_f (by decide) (ite_f (by decide) hf)))
      exact frr_w_X12_readSum_0 _ h_0 h_1 h_2 h_3 h_4 h_5 h_6 t0 hf
    · intro x0 x1 μ μ' r t0 hf
      rw [g_X12_readAtom.eq_2] at hf
      have hf := ite_t rfl (ite_f (by decide) (ite_f (by decide) (ite_f (by decide) (ite_f (by decide) hf))))
      exact frr_w_X12_readTerm_0 _ h_0 h_1 h_2 h_3 h_4 h_5 h_6 t0 hf
    · intro x0 x1 μ μ' r t0 hf
      rw [g_X12_readAtom.eq_2] at hf
      have hf := ite_t rfl (ite_f (by decide) (ite_f (by decide) (ite_f (by decide) (ite_f (by decide) (ite_f (by decide) hf)))))
      exact frr_w_X12_readTruth_0 _ h_0 h_1 h_2 h_3 h_4 h_5 h_6 t0 hf
    · intro x0 x1 μ μ' r t0 hf
      rw [g_X12_readAtom.eq_2] at hf
      have hf := ite_t rfl (ite_f (by decide) (ite_f (by decide) (ite_f (by decide) (ite_f (by decide) (ite_f (by decide) (ite_f (by decide) hf))))))
      exact frr_w_X12_readUnit_0 _ h_0 h_1 h_2 h_3 h_4 h_5 h_6 t0 hf
theorem frr_X12_readAtom {x0 x1 : Int} {μ μ' : Mem} {r : Int} (t0 : isK x0 12) (hf : f_X12_readAtom x0 x1 μ = some (r, μ')) : FrR μ μ' := ((frrg_X12_readAtom 64).1) _ _ _ _ _ t0 hf
theorem frr_X12_readBoth {x0 x1 : Int} {μ μ' : Mem} {r : Int} (t0 : isK x0 12) (hf : f_X12_readBoth x0 x1 μ = some (r, μ')) : FrR μ μ' := ((frrg_X12_readAtom 64).2.1) _ _ _ _ _ t0 hf
theorem frr_X12_readIf {x0 x1 : Int} {μ μ' : Mem} {r : Int} (t0 : isK x0 12) (hf : f_X12_readIf x0 x1 μ = some (r, μ')) : FrR μ μ' := ((frrg_X12_readAtom 64).2.2.1) _ _ _ _ _ t0 hf
theorem frr_X12_readSum {x0 x1 : Int} {μ μ' : Mem} {r : Int} (t0 : isK x0 12) (hf : f_X12_readSum x0 x1 μ = some (r, μ')) : FrR μ μ' := ((frrg_X12_readAtom 64).2.2.2.1) _ _ _ _ _ t0 hf
theorem frr_X12_readTerm {x0 x1 : Int} {μ μ' : Mem} {r : Int} (t0 : isK x0 12) (hf : f_X12_readTerm x0 x1 μ = some (r, μ')) : FrR μ μ' := ((frrg_X12_readAtom 64).2.2.2.2.1) _ _ _ _ _ t0 hf
theorem frr_X12_readTruth {x0 x1 : Int} {μ μ' : Mem} {r : Int} (t0 : isK x0 12) (hf : f_X12_readTruth x0 x1 μ = some (r, μ')) : FrR μ μ' := ((frrg_X12_readAtom 64).2.2.2.2.2.1) _ _ _ _ _ t0 hf
theorem frr_X12_readUnit {x0 x1 : Int} {μ μ' : Mem} {r : Int} (t0 : isK x0 12) (hf : f_X12_readUnit x0 x1 μ = some (r, μ')) : FrR μ μ' := ((frrg_X12_readAtom 64).2.2.2.2.2.2) _ _ _ _ _ t0 hf
theorem frr_w_X12_readFlag_83 {x0 : Int} {μ μ' : Mem} {r : Int} (t0 : isK x0 12) (hf : f_X12_readFlag_j83 x0 μ = some (r, μ')) : FrR μ μ' := by
  unfold f_X12_readFlag_j83 at hf
  rcases Decidable.em (nrm (μ x0 11) = 0) with c1 | c1
  · have hf := ite_t c1 hf
    cases hf; exact frr_rf
  · have hf := ite_f c1 hf
    cases hf; exact frr_rf
theorem frr_X12_readFlag {x0 x1 : Int} {μ μ' : Mem} {r : Int} (t0 : isK x0 12) (hf : f_X12_readFlag x0 x1 μ = some (r, μ')) : FrR μ μ' := by
  unfold f_X12_readFlag at hf
  obtain ⟨r2, μ1, e3, hf⟩ := bn_some hf
  have fq1 := (frr_X12_eats t0 e3)
  rcases Decidable.em (nrm r2 = 0) with c4 | c4
  · have hf := ite_t c4 hf
    obtain ⟨r6, μ5, e7, hf⟩ := bn_some hf
    have fq2 := fq1.trans (frr_X12_eats t0 e7)
    rcases Decidable.em (nrm r6 = 0) with c8 | c8
    · have hf := ite_t c8 hf
      obtain ⟨r10, μ9, e11, hf⟩ := bn_some hf
      have fq3 := fq2.trans (frr_X12_eats t0 e11)
      rcases Decidable.em (nrm r10 = 0) with c12 | c12
      · have hf := ite_t c12 hf
        cases hf; exact fq3
      · have hf := ite_f c12 hf
        obtain ⟨r14, μ13, e15, hf⟩ := bn_some hf
        have fq4 := fq3.trans (frr_X12_takes t0 e15)
        obtain ⟨g18, hf⟩ := gd_some hf
        obtain ⟨μ16, e17, hf⟩ := nm_some hf
        have fq5 := fq4.trans (frr_ms (by have := bd_12 t0; omega) e17)
        exact fq5.trans (frr_w_X12_readFlag_83 t0 hf)
    · have hf := ite_f c8 hf
      obtain ⟨r20, μ19, e21, hf⟩ := bn_some hf
      have fq6 := fq2.trans (frr_X12_takes t0 e21)
      obtain ⟨g24, hf⟩ := gd_some hf
      obtain ⟨μ22, e23, hf⟩ := nm_some hf
      have fq7 := fq6.trans (frr_ms (by have := bd_12 t0; omega) e23)
      exact fq7.trans (frr_w_X12_readFlag_83 t0 hf)
  · have hf := ite_f c4 hf
    obtain ⟨r26, μ25, e27, hf⟩ := bn_some hf
    have fq8 := fq1.trans (frr_X12_takes t0 e27)
    obtain ⟨g30, hf⟩ := gd_some hf
    obtain ⟨μ28, e29, hf⟩ := nm_some hf
    have fq9 := fq8.trans (frr_ms (by have := bd_12 t0; omega) e29)
    exact fq9.trans (frr_w_X12_readFlag_83 t0 hf)
theorem frr_w_X12_readLane_122 {x0 : Int} {μ μ' : Mem} {r : Int} (t0 : isK x0 12) (hf : f_X12_readLane_j122 x0 μ = some (r, μ')) : FrR μ μ' := by
  unfold f_X12_readLane_j122 at hf
  rcases Decidable.em (nrm (μ x0 11) = 0) with c1 | c1
  · have hf := ite_t c1 hf
    obtain ⟨μ2, e3, hf⟩ := nm_some hf
    have fq1 := (frr_ms (by have := bd_12 t0; omega) e3)
    cases hf; exact fq1
  · have hf := ite_f c1 hf
    cases hf; exact frr_rf
theorem frr_w_X12_readLane_104 : ∀ (n : Nat) (x0 x1 : Int) (μ μ' : Mem) (r : Int), isK x0 12 → f_X12_readLane_w104 n x0 x1 μ = some (r, μ') → FrR μ μ' := by
  intro n
  induction n with
  | zero => intro x0 x1 μ μ' r t0 hf; cases hf
  | succ n ih =>
    intro x0 x1 μ μ' r t0 hf
    rw [f_X12_readLane_w104.eq_2] at hf
    rcases Decidable.em (nrm (μ x0 11) = 0) with c1 | c1
    · have hf := ite_t c1 hf
      obtain ⟨r3, μ2, e4, hf⟩ := bn_some hf
      have fq2 := (frr_X12_readFlag t0 e4)
      rcases Decidable.em (nrm r3 = 0) with c5 | c5
      · have hf := ite_t c5 hf
        exact fq2.trans (frr_w_X12_readLane_122 t0 hf)
      · have hf := ite_f c5 hf
        exact fq2.trans (ih _ _ _ _ _ t0 hf)
    · have hf := ite_f c1 hf
      exact frr_w_X12_readLane_122 t0 hf
theorem frr_w_X12_readLane_82 {x0 x1 : Int} {μ μ' : Mem} {r : Int} (t0 : isK x0 12) (hf : f_X12_readLane_j82 x0 x1 μ = some (r, μ')) : FrR μ μ' := by
  unfold f_X12_readLane_j82 at hf
  obtain ⟨r2, μ1, e3, hf⟩ := bn_some hf
  have fq3 := (frr_X12_takes t0 e3)
  obtain ⟨g6, hf⟩ := gd_some hf
  obtain ⟨μ4, e5, hf⟩ := nm_some hf
  have fq4 := fq3.trans (frr_ms (by have := bd_12 t0; omega) e5)
  exact fq4.trans (frr_w_X12_readLane_104 FU _ _ _ _ _ t0 hf)
theorem frr_w_X12_readLane_18 {x0 x1 : Int} {μ μ' : Mem} {r : Int} (t0 : isK x0 12) (hf : f_X12_readLane_j18 x0 x1 μ = some (r, μ')) : FrR μ μ' := by
  unfold f_X12_readLane_j18 at hf
  rcases Decidable.em (nrm (μ x0 11) = 0) with c1 | c1
  · have hf := ite_t c1 hf
    obtain ⟨r3, μ2, e4, hf⟩ := bn_some hf
    have fq5 := (frr_X12_next t0 e4)
    obtain ⟨r6, μ5, e7, hf⟩ := bn_some hf
    have fq6 := fq5.trans (frr_X12_takes t0 e7)
    obtain ⟨g10, hf⟩ := gd_some hf
    obtain ⟨μ8, e9, hf⟩ := nm_some hf
    have fq7 := fq6.trans (frr_ms (by have := bd_12 t0; omega) e9)
    obtain ⟨r12, μ11, e13, hf⟩ := bn_some hf
    have fq8 := fq7.trans (frr_X12_is t0 e13)
    rcases Decidable.em (nrm r12 = 0) with c14 | c14
    · have hf := ite_t c14 hf
      exact fq8.trans (frr_w_X12_readLane_82 t0 hf)
    · have hf := ite_f c14 hf
      obtain ⟨g15, hf⟩ := gd_some hf
      rcases Decidable.em (nrm (μ11 x0 10) = nrm (μ11 (x0 + 4) (nrm (11 + x1)))) with c16 | c16
      · have hf := ite_t c16 hf
        obtain ⟨r18, μ17, e19, hf⟩ := bn_some hf
        have fq9 := fq8.trans (frr_X12_fails t0 e19)
        exact fq9.trans (frr_w_X12_readLane_82 t0 hf)
      · have hf := ite_f c16 hf
        exact fq8.trans (frr_w_X12_readLane_82 t0 hf)
  · have hf := ite_f c1 hf
    cases hf; exact frr_rf
theorem frr_X12_readLane {x0 : Int} {μ μ' : Mem} {r : Int} (t0 : isK x0 12) (hf : f_X12_readLane x0 μ = some (r, μ')) : FrR μ μ' := by
  unfold f_X12_readLane at hf
  obtain ⟨v1, e2, hf⟩ := nm_some hf
  rcases Decidable.em (nrm v1 = nrm 9) with c3 | c3
  · have hf := ite_t c3 hf
    obtain ⟨r5, μ4, e6, hf⟩ := bn_some hf
    have fq10 := (frr_X12_fails t0 e6)
    exact fq10.trans (frr_w_X12_readLane_18 t0 hf)
  · have hf := ite_f c3 hf
    exact frr_w_X12_readLane_18 t0 hf
theorem frr_w_X12_named_13 {x0 x2 x3 : Int} {μ μ' : Mem} {r : Int} (t0 : isK x0 12) (hf : f_X12_named_j13 x0 x2 x3 μ = some (r, μ')) : FrR μ μ' := by
  unfold f_X12_named_j13 at hf
  obtain ⟨r2, μ1, e3, hf⟩ := bn_some hf
  have fq1 := (frr_X12_takes t0 e3)
  cases hf; exact fq1
theorem frr_X12_named {x0 x1 x2 x3 : Int} {μ μ' : Mem} {r : Int} (t0 : isK x0 12) (hf : f_X12_named x0 x1 x2 x3 μ = some (r, μ')) : FrR μ μ' := by
  unfold f_X12_named at hf
  obtain ⟨r2, μ1, e3, hf⟩ := bn_some hf
  have fq2 := (frr_X12_eats t0 e3)
  rcases Decidable.em (nrm r2 = 0) with c4 | c4
  · have hf := ite_t c4 hf
    obtain ⟨r6, μ5, e7, hf⟩ := bn_some hf
    have fq3 := fq2.trans (frr_X12_fails t0 e7)
    exact fq3.trans (frr_w_X12_named_13 t0 hf)
  · have hf := ite_f c4 hf
    exact fq2.trans (frr_w_X12_named_13 t0 hf)
theorem frr_X12_readCart {x0 : Int} {μ μ' : Mem} {r : Int} (t0 : isK x0 12) (hf : f_X12_readCart x0 μ = some (r, μ')) : FrR μ μ' := by
  unfold f_X12_readCart at hf
  obtain ⟨r2, μ1, e3, hf⟩ := bn_some hf
  have fq1 := (frr_X12_next t0 e3)
  obtain ⟨r5, μ4, e6, hf⟩ := bn_some hf
  have fq2 := fq1.trans (frr_X12_named t0 e6)
  obtain ⟨μ7, e8, hf⟩ := nm_some hf
  have fq3 := fq2.trans (frr_ms (by have := bd_12 t0; omega) e8)
  obtain ⟨r10, μ9, e11, hf⟩ := bn_some hf
  have fq4 := fq3.trans (frr_X12_named t0 e11)
  obtain ⟨μ12, e13, hf⟩ := nm_some hf
  have fq5 := fq4.trans (frr_ms (by have := bd_12 t0; omega) e13)
  cases hf; exact fq5
theorem frr_w_X12_readPerson_80 {x0 : Int} {μ μ' : Mem} {r : Int} (t0 : isK x0 12) (hf : f_X12_readPerson_j80 x0 μ = some (r, μ')) : FrR μ μ' := by
  unfold f_X12_readPerson_j80 at hf
  rcases Decidable.em (nrm (μ x0 11) = 0) with c1 | c1
  · have hf := ite_t c1 hf
    obtain ⟨μ2, e3, hf⟩ := nm_some hf
    have fq1 := (frr_ms (by have := bd_12 t0; omega) e3)
    cases hf; exact fq1
  · have hf := ite_f c1 hf
    cases hf; exact frr_rf
theorem frr_w_X12_readPerson_48 : ∀ (n : Nat) (x0 x1 : Int) (μ μ' : Mem) (r : Int), isK x0 12 → f_X12_readPerson_w48 n x0 x1 μ = some (r, μ') → FrR μ μ' := by
  intro n
  induction n with
  | zero => intro x0 x1 μ μ' r t0 hf; cases hf
  | succ n ih =>
    intro x0 x1 μ μ' r t0 hf
    rw [f_X12_readPerson_w48.eq_2] at hf
    rcases Decidable.em (nrm (μ x0 11) = 0) with c1 | c1
    · have hf := ite_t c1 hf
      obtain ⟨r3, μ2, e4, hf⟩ := bn_some hf
      have fq2 := (frr_X12_eats t0 e4)
      rcases Decidable.em (nrm r3 = 0) with c5 | c5
      · have hf := ite_t c5 hf
        exact fq2.trans (frr_w_X12_readPerson_80 t0 hf)
      · have hf := ite_f c5 hf
        obtain ⟨μ6, e7, hf⟩ := nm_some hf
        have fq3 := fq2.trans (frr_ms (by have := bd_12 t0; omega) e7)
        exact fq3.trans (ih _ _ _ _ _ t0 hf)
    · have hf := ite_f c1 hf
      exact frr_w_X12_readPerson_80 t0 hf
theorem frr_w_X12_readPerson_18 {x0 x1 : Int} {μ μ' : Mem} {r : Int} (t0 : isK x0 12) (hf : f_X12_readPerson_j18 x0 x1 μ = some (r, μ')) : FrR μ μ' := by
  unfold f_X12_readPerson_j18 at hf
  rcases Decidable.em (nrm (μ x0 11) = 0) with c1 | c1
  · have hf := ite_t c1 hf
    obtain ⟨r3, μ2, e4, hf⟩ := bn_some hf
    have fq4 := (frr_X12_next t0 e4)
    obtain ⟨r6, μ5, e7, hf⟩ := bn_some hf
    have fq5 := fq4.trans (frr_X12_named t0 e7)
    obtain ⟨g10, hf⟩ := gd_some hf
    obtain ⟨μ8, e9, hf⟩ := nm_some hf
    have fq6 := fq5.trans (frr_ms (by have := bd_12 t0; omega) e9)
    exact fq6.trans (frr_w_X12_readPerson_48 FU _ _ _ _ _ t0 hf)
  · have hf := ite_f c1 hf
    cases hf; exact frr_rf
theorem frr_X12_readPerson {x0 : Int} {μ μ' : Mem} {r : Int} (t0 : isK x0 12) (hf : f_X12_readPerson x0 μ = some (r, μ')) : FrR μ μ' := by
  unfold f_X12_readPerson at hf
  obtain ⟨v1, e2, hf⟩ := nm_some hf
  rcases Decidable.em (nrm v1 = nrm 8) with c3 | c3
  · have hf := ite_t c3 hf
    obtain ⟨r5, μ4, e6, hf⟩ := bn_some hf
    have fq7 := (frr_X12_fails t0 e6)
    exact fq7.trans (frr_w_X12_readPerson_18 t0 hf)
  · have hf := ite_f c3 hf
    exact frr_w_X12_readPerson_18 t0 hf
theorem frr_w_X12_readLaw_49 {x0 x1 x2 : Int} {μ μ' : Mem} {r : Int} (t0 : isK x0 12) (hf : f_X12_readLaw_j49 x0 x1 x2 μ = some (r, μ')) : FrR μ μ' := by
  unfold f_X12_readLaw_j49 at hf
  rcases Decidable.em (nrm (μ x0 11) = 0) with c1 | c1
  · have hf := ite_t c1 hf
    obtain ⟨g4, hf⟩ := gd_some hf
    obtain ⟨μ2, e3, hf⟩ := nm_some hf
    have fq1 := (frr_ms (by have := bd_12 t0; omega) e3)
    obtain ⟨g7, hf⟩ := gd_some hf
    obtain ⟨μ5, e6, hf⟩ := nm_some hf
    have fq2 := fq1.trans (frr_ms (by have := bd_12 t0; omega) e6)
    obtain ⟨g10, hf⟩ := gd_some hf
    obtain ⟨μ8, e9, hf⟩ := nm_some hf
    have fq3 := fq2.trans (frr_ms (by have := bd_12 t0; omega) e9)
    cases hf; exact fq3
  · have hf := ite_f c1 hf
    cases hf; exact frr_rf
theorem frr_w_X12_readLaw_18 {x0 x1 : Int} {μ μ' : Mem} {r : Int} (t0 : isK x0 12) (hf : f_X12_readLaw_j18 x0 x1 μ = some (r, μ')) : FrR μ μ' := by
  unfold f_X12_readLaw_j18 at hf
  obtain ⟨v1, e2, hf⟩ := nm_some hf
  obtain ⟨μ3, e4, hf⟩ := nm_some hf
  have fq4 := (frr_ms (by have := bd_12 t0; omega) e4)
  rcases Decidable.em (nrm x1 = 0) with c5 | c5
  · have hf := ite_t c5 hf
    obtain ⟨r10, μ9, e11, hf⟩ := bn_some hf
    have fq6 := fq4.trans (frr_X12_readSum t0 e11)
    exact fq6.trans (frr_w_X12_readLaw_49 t0 hf)
  · have hf := ite_f c5 hf
    obtain ⟨r7, μ6, e8, hf⟩ := bn_some hf
    have fq5 := fq4.trans (frr_X12_readTruth t0 e8)
    exact fq5.trans (frr_w_X12_readLaw_49 t0 hf)
theorem frr_X12_readLaw {x0 x1 : Int} {μ μ' : Mem} {r : Int} (t0 : isK x0 12) (hf : f_X12_readLaw x0 x1 μ = some (r, μ')) : FrR μ μ' := by
  unfold f_X12_readLaw at hf
  obtain ⟨r2, μ1, e3, hf⟩ := bn_some hf
  have fq7 := (frr_X12_next t0 e3)
  obtain ⟨r5, μ4, e6, hf⟩ := bn_some hf
  have fq8 := fq7.trans (frr_X12_eats t0 e6)
  rcases Decidable.em (nrm r5 = 0) with c7 | c7
  · have hf := ite_t c7 hf
    obtain ⟨r9, μ8, e10, hf⟩ := bn_some hf
    have fq9 := fq8.trans (frr_X12_fails t0 e10)
    exact fq9.trans (frr_w_X12_readLaw_18 t0 hf)
  · have hf := ite_f c7 hf
    exact fq8.trans (frr_w_X12_readLaw_18 t0 hf)
theorem frr_w_X12_readLine_99 {x0 : Int} {μ μ' : Mem} {r : Int} (t0 : isK x0 12) (hf : f_X12_readLine_j99 x0 μ = some (r, μ')) : FrR μ μ' := by
  unfold f_X12_readLine_j99 at hf
  obtain ⟨r2, μ1, e3, hf⟩ := bn_some hf
  have fq1 := (frr_X12_readLaw t0 e3)
  cases hf; exact fq1
theorem frr_X12_readLine {x0 : Int} {μ μ' : Mem} {r : Int} (t0 : isK x0 12) (hf : f_X12_readLine x0 μ = some (r, μ')) : FrR μ μ' := by
  unfold f_X12_readLine at hf
  rcases Decidable.em (nrm (μ x0 11) = 0) with c1 | c1
  · have hf := ite_t c1 hf
    obtain ⟨r3, μ2, e4, hf⟩ := bn_some hf
    have fq2 := (frr_X12_is t0 e4)
    rcases Decidable.em (nrm r3 = 0) with c5 | c5
    · have hf := ite_t c5 hf
      obtain ⟨r7, μ6, e8, hf⟩ := bn_some hf
      have fq3 := fq2.trans (frr_X12_is t0 e8)
      rcases Decidable.em (nrm r7 = 0) with c9 | c9
      · have hf := ite_t c9 hf
        obtain ⟨r11, μ10, e12, hf⟩ := bn_some hf
        have fq4 := fq3.trans (frr_X12_is t0 e12)
        rcases Decidable.em (nrm r11 = 0) with c13 | c13
        · have hf := ite_t c13 hf
          obtain ⟨r15, μ14, e16, hf⟩ := bn_some hf
          have fq5 := fq4.trans (frr_X12_eats t0 e16)
          rcases Decidable.em (nrm r15 = 0) with c17 | c17
          · have hf := ite_t c17 hf
            obtain ⟨r19, μ18, e20, hf⟩ := bn_some hf
            have fq6 := fq5.trans (frr_X12_is t0 e20)
            rcases Decidable.em (nrm r19 = 0) with c21 | c21
            · have hf := ite_t c21 hf
              obtain ⟨r23, μ22, e24, hf⟩ := bn_some hf
              have fq7 := fq6.trans (frr_X12_is t0 e24)
              rcases Decidable.em (nrm r23 = 0) with c25 | c25
              · have hf := ite_t c25 hf
                obtain ⟨r27, μ26, e28, hf⟩ := bn_some hf
                have fq8 := fq7.trans (frr_X12_fails t0 e28)
                cases hf; exact fq8
              · have hf := ite_f c25 hf
                exact fq7.trans (frr_w_X12_readLine_99 t0 hf)
            · have hf := ite_f c21 hf
              exact fq6.trans (frr_w_X12_readLine_99 t0 hf)
          · have hf := ite_f c17 hf
            obtain ⟨r30, μ29, e31, hf⟩ := bn_some hf
            have fq9 := fq5.trans (frr_X12_takes t0 e31)
            obtain ⟨μ32, e33, hf⟩ := nm_some hf
            have fq10 := fq9.trans (frr_ms (by have := bd_12 t0; omega) e33)
            cases hf; exact fq10
        · have hf := ite_f c13 hf
          obtain ⟨r35, μ34, e36, hf⟩ := bn_some hf
          have fq11 := fq4.trans (frr_X12_readPerson t0 e36)
          cases hf; exact fq11
      · have hf := ite_f c9 hf
        obtain ⟨r38, μ37, e39, hf⟩ := bn_some hf
        have fq12 := fq3.trans (frr_X12_readCart t0 e39)
        cases hf; exact fq12
    · have hf := ite_f c5 hf
      obtain ⟨r41, μ40, e42, hf⟩ := bn_some hf
      have fq13 := fq2.trans (frr_X12_readLane t0 e42)
      cases hf; exact fq13
  · have hf := ite_f c1 hf
    cases hf; exact frr_rf
theorem frr_w_X12_closes_14 {x0 : Int} {μ μ' : Mem} {r : Int} (t0 : isK x0 12) (hf : f_X12_closes_j14 x0 μ = some (r, μ')) : FrR μ μ' := by
  unfold f_X12_closes_j14 at hf
  obtain ⟨μ1, e2, hf⟩ := nm_some hf
  have fq1 := (frr_ms (by have := bd_12 t0; omega) e2)
  cases hf; exact fq1
theorem frr_X12_closes {x0 : Int} {μ μ' : Mem} {r : Int} (t0 : isK x0 12) (hf : f_X12_closes x0 μ = some (r, μ')) : FrR μ μ' := by
  unfold f_X12_closes at hf
  obtain ⟨r2, μ1, e3, hf⟩ := bn_some hf
  have fq2 := (frr_X12_eats t0 e3)
  rcases Decidable.em (nrm r2 = 0) with c4 | c4
  · have hf := ite_t c4 hf
    obtain ⟨r6, μ5, e7, hf⟩ := bn_some hf
    have fq3 := fq2.trans (frr_X12_fails t0 e7)
    exact fq3.trans (frr_w_X12_closes_14 t0 hf)
  · have hf := ite_f c4 hf
    exact fq2.trans (frr_w_X12_closes_14 t0 hf)
theorem frr_w_X12_land_155 : ∀ (n : Nat) (x0 x2 : Int) (μ μ' : Mem) (r : Int), isK x0 12 → f_X12_land_w155 n x0 x2 μ = some (r, μ') → FrR μ μ' := by
  intro n
  induction n with
  | zero => intro x0 x2 μ μ' r t0 hf; cases hf
  | succ n ih =>
    intro x0 x2 μ μ' r t0 hf
    rw [f_X12_land_w155.eq_2] at hf
    rcases Decidable.em (nrm 1100 ≤ nrm x2) with c1 | c1
    · have hf := ite_t c1 hf
      cases hf; exact frr_rf
    · have hf := ite_f c1 hf
      obtain ⟨g2, hf⟩ := gd_some hf
      obtain ⟨g5, hf⟩ := gd_some hf
      obtain ⟨μ3, e4, hf⟩ := nm_some hf
      have fq1 := (frr_ms (by have := bd_12 t0; omega) e4)
      exact fq1.trans (ih _ _ _ _ _ t0 hf)
theorem frr_w_X12_land_135 {x0 s0 s1 : Int} {μ μ' : Mem} {r : Int} (hb_s0 : s0 ≥ 111) (t0 : isK x0 12) (hf : f_X12_land_j135 x0 s0 s1 μ = some (r, μ')) : FrR μ μ' := by
  unfold f_X12_land_j135 at hf
  obtain ⟨g1, hf⟩ := gd_some hf
  obtain ⟨μ2, e3, hf⟩ := nm_some hf
  have fq2 := (frr_ms (by have := bd_12 g1; omega) e3)
  rcases Decidable.em (nrm (μ2 x0 11) = 0) with c4 | c4
  · have hf := ite_t c4 hf
    exact fq2.trans (frr_w_X12_land_155 FU _ _ _ _ _ t0 hf)
  · have hf := ite_f c4 hf
    cases hf; exact fq2
theorem frr_w_X12_land_111 {x0 : Int} {μ μ' : Mem} {r : Int} (t0 : isK x0 12) (hf : f_X12_land_j111 x0 μ = some (r, μ')) : FrR μ μ' := by
  unfold f_X12_land_j111 at hf
  obtain ⟨μ1, e2, hf⟩ := nm_some hf
  have fq3 := (frr_ms (by have := bd_12 t0; omega) e2)
  rcases Decidable.em (nrm (μ1 x0 11) = 0) with c3 | c3
  · have hf := ite_t c3 hf
    exact fq3.trans (frr_w_X12_land_135 (by have := bd_12 t0; omega) t0 hf)
  · have hf := ite_f c3 hf
    exact fq3.trans (frr_w_X12_land_135 (by have := bd_12 t0; omega) t0 hf)
theorem frr_w_X12_land_84 : ∀ (n : Nat) (x0 : Int) (μ μ' : Mem) (r : Int), isK x0 12 → f_X12_land_w84 n x0 μ = some (r, μ') → FrR μ μ' := by
  intro n
  induction n with
  | zero => intro x0 μ μ' r t0 hf; cases hf
  | succ n ih =>
    intro x0 μ μ' r t0 hf
    rw [f_X12_land_w84.eq_2] at hf
    rcases Decidable.em (nrm (μ x0 11) = 0) with c1 | c1
    · have hf := ite_t c1 hf
      rcases Decidable.em (nrm (μ x0 9) = nrm 24) with c2 | c2
      · have hf := ite_t c2 hf
        exact frr_w_X12_land_111 t0 hf
      · have hf := ite_f c2 hf
        obtain ⟨r4, μ3, e5, hf⟩ := bn_some hf
        have fq4 := (frr_X12_readLine t0 e5)
        obtain ⟨r7, μ6, e8, hf⟩ := bn_some hf
        have fq5 := fq4.trans (frr_X12_closes t0 e8)
        exact fq5.trans (ih _ _ _ _ t0 hf)
    · have hf := ite_f c1 hf
      exact frr_w_X12_land_111 t0 hf
theorem frr_w_X12_land_66 {x0 : Int} {μ μ' : Mem} {r : Int} (t0 : isK x0 12) (hf : f_X12_land_j66 x0 μ = some (r, μ')) : FrR μ μ' := by
  unfold f_X12_land_j66 at hf
  obtain ⟨r2, μ1, e3, hf⟩ := bn_some hf
  have fq6 := (frr_X12_named t0 e3)
  obtain ⟨μ4, e5, hf⟩ := nm_some hf
  have fq7 := fq6.trans (frr_ms (by have := bd_12 t0; omega) e5)
  obtain ⟨r7, μ6, e8, hf⟩ := bn_some hf
  have fq8 := fq7.trans (frr_X12_closes t0 e8)
  exact fq8.trans (frr_w_X12_land_84 FU _ _ _ _ t0 hf)
theorem frr_X12_land {x0 x1 : Int} {μ μ' : Mem} {r : Int} (t0 : isK x0 12) (hf : f_X12_land x0 x1 μ = some (r, μ')) : FrR μ μ' := by
  unfold f_X12_land at hf
  obtain ⟨μ1, e2, hf⟩ := nm_some hf
  have fq9 := (frr_ms (by have := bd_12 t0; omega) e2)
  obtain ⟨r4, μ3, e5, hf⟩ := bn_some hf
  have fq10 := fq9.trans (frr_X12_within e5)
  rcases Decidable.em (nrm r4 = 0) with c6 | c6
  · have hf := ite_t c6 hf
    cases hf; exact fq10
  · have hf := ite_f c6 hf
    obtain ⟨μ7, e8, hf⟩ := nm_some hf
    have fq11 := fq10.trans (frr_ms (by have := bd_12 t0; omega) e8)
    obtain ⟨μ9, e10, hf⟩ := nm_some hf
    have fq12 := fq11.trans (frr_ms (by have := bd_12 t0; omega) e10)
    obtain ⟨μ11, e12, hf⟩ := nm_some hf
    have fq13 := fq12.trans (frr_ms (by have := bd_12 t0; omega) e12)
    obtain ⟨μ13, e14, hf⟩ := nm_some hf
    have fq14 := fq13.trans (frr_ms (by have := bd_12 t0; omega) e14)
    obtain ⟨r16, μ15, e17, hf⟩ := bn_some hf
    have fq15 := fq14.trans (frr_X12_plain (by have := bd_12 t0; omega) e17)
    obtain ⟨r19, μ18, e20, hf⟩ := bn_some hf
    have fq16 := fq15.trans (frr_X12_next t0 e20)
    obtain ⟨r22, μ21, e23, hf⟩ := bn_some hf
    have fq17 := fq16.trans (frr_X12_eats t0 e23)
    rcases Decidable.em (nrm r22 = 0) with c24 | c24
    · have hf := ite_t c24 hf
      obtain ⟨r26, μ25, e27, hf⟩ := bn_some hf
      have fq18 := fq17.trans (frr_X12_fails t0 e27)
      exact fq18.trans (frr_w_X12_land_66 t0 hf)
    · have hf := ite_f c24 hf
      exact fq17.trans (frr_w_X12_land_66 t0 hf)
theorem frr_X12_fault {x0 x1 : Int} {μ μ' : Mem} {r : Int} (t0 : isK x0 12) (hf : f_X12_fault x0 x1 μ = some (r, μ')) : FrR μ μ' := by
  unfold f_X12_fault at hf
  obtain ⟨μ1, e2, hf⟩ := nm_some hf
  have fq1 := (frr_ms (by have := bd_12 t0; omega) e2)
  rcases Decidable.em (nrm x1 = 0) with c3 | c3
  · have hf := ite_t c3 hf
    cases hf; exact fq1
  · have hf := ite_f c3 hf
    rcases Decidable.em (nrm x1 = nrm 1) with c4 | c4
    · have hf := ite_t c4 hf
      cases hf; exact fq1
    · have hf := ite_f c4 hf
      cases hf; exact fq1
theorem frr_X12_isPlace {x0 x1 : Int} {μ μ' : Mem} {r : Int} (t0 : isK x0 12) (hf : f_X12_isPlace x0 x1 μ = some (r, μ')) : FrR μ μ' := by
  unfold f_X12_isPlace at hf
  obtain ⟨r2, μ1, e3, hf⟩ := bn_some hf
  have fq1 := (frr_X12_within e3)
  obtain ⟨g4, hf⟩ := gd_some hf
  cases hf; exact fq1
theorem frr_X12_isLane {x0 x1 : Int} {μ μ' : Mem} {r : Int} (t0 : isK x0 12) (hf : f_X12_isLane x0 x1 μ = some (r, μ')) : FrR μ μ' := by
  unfold f_X12_isLane at hf
  obtain ⟨r2, μ1, e3, hf⟩ := bn_some hf
  have fq1 := (frr_X12_within e3)
  obtain ⟨g4, hf⟩ := gd_some hf
  cases hf; exact fq1
theorem frr_X12_isPerson {x0 x1 : Int} {μ μ' : Mem} {r : Int} (t0 : isK x0 12) (hf : f_X12_isPerson x0 x1 μ = some (r, μ')) : FrR μ μ' := by
  unfold f_X12_isPerson at hf
  obtain ⟨r2, μ1, e3, hf⟩ := bn_some hf
  have fq1 := (frr_X12_within e3)
  obtain ⟨g4, hf⟩ := gd_some hf
  cases hf; exact fq1
theorem frr_w_X12_bitsOf_4 : ∀ (n : Nat) (x0 x1 x2 : Int) (μ μ' : Mem) (r : Int), f_X12_bitsOf_w4 n x0 x1 x2 μ = some (r, μ') → FrR μ μ' := by
  intro n
  induction n with
  | zero => intro x0 x1 x2 μ μ' r hf; cases hf
  | succ n ih =>
    intro x0 x1 x2 μ μ' r hf
    rw [f_X12_bitsOf_w4.eq_2] at hf
    rcases Decidable.em (nrm 9 ≤ nrm x2) with c1 | c1
    · have hf := ite_t c1 hf
      cases hf; exact frr_rf
    · have hf := ite_f c1 hf
      obtain ⟨v2, e3, hf⟩ := nm_some hf
      exact ih _ _ _ _ _ _ hf
theorem frr_X12_bitsOf {x0 : Int} {μ μ' : Mem} {r : Int} (hf : f_X12_bitsOf x0 μ = some (r, μ')) : FrR μ μ' := by
  unfold f_X12_bitsOf at hf
  exact frr_w_X12_bitsOf_4 FU _ _ _ _ _ _ hf
theorem frr_X12_otherEnd {x0 x1 x2 : Int} {μ μ' : Mem} {r : Int} (t0 : isK x0 12) (hf : f_X12_otherEnd x0 x1 x2 μ = some (r, μ')) : FrR μ μ' := by
  unfold f_X12_otherEnd at hf
  obtain ⟨g1, hf⟩ := gd_some hf
  rcases Decidable.em (nrm (μ (x0 + 1) (nrm (11 + x1))) = nrm x2) with c2 | c2
  · have hf := ite_t c2 hf
    obtain ⟨g6, hf⟩ := gd_some hf
    cases hf; exact frr_rf
  · have hf := ite_f c2 hf
    obtain ⟨g3, hf⟩ := gd_some hf
    rcases Decidable.em (nrm (μ (x0 + 1) (nrm (20 + x1))) = nrm x2) with c4 | c4
    · have hf := ite_t c4 hf
      obtain ⟨g5, hf⟩ := gd_some hf
      cases hf; exact frr_rf
    · have hf := ite_f c4 hf
      cases hf; exact frr_rf
theorem frr_w_X12_between_116 {s0 : Int} {μ μ' : Mem} {r : Int} (hf : f_X12_between_j116 s0 μ = some (r, μ')) : FrR μ μ' := by
  unfold f_X12_between_j116 at hf
  rcases Decidable.em (nrm (kcmp s0 1000000) ≤ 0) with c1 | c1
  · have hf := ite_t c1 hf
    rcases Decidable.em (0 ≤ nrm (kcmp s0 (-1000000))) with c2 | c2
    · have hf := ite_t c2 hf
      cases hf; exact frr_rf
    · have hf := ite_f c2 hf
      cases hf; exact frr_rf
  · have hf := ite_f c1 hf
    cases hf; exact frr_rf
theorem frr_w_X12_between_81 {x0 x1 x2 : Int} {μ μ' : Mem} {r : Int} (hf : f_X12_between_j81 x0 x1 x2 μ = some (r, μ')) : FrR μ μ' := by
  unfold f_X12_between_j81 at hf
  rcases Decidable.em (nrm x0 = nrm 3000) with c1 | c1
  · have hf := ite_t c1 hf
    exact frr_w_X12_between_116 hf
  · have hf := ite_f c1 hf
    rcases Decidable.em (nrm x0 = nrm 3001) with c2 | c2
    · have hf := ite_t c2 hf
      exact frr_w_X12_between_116 hf
    · have hf := ite_f c2 hf
      exact frr_w_X12_between_116 hf
theorem frr_X12_between {x0 x1 x2 : Int} {μ μ' : Mem} {r : Int} (hf : f_X12_between x0 x1 x2 μ = some (r, μ')) : FrR μ μ' := by
  unfold f_X12_between at hf
  rcases Decidable.em (nrm x0 = 3003) with c1 | c1
  · have hf := ite_t c1 hf
    rcases Decidable.em (nrm x1 = nrm x2) with c2 | c2
    · have hf := ite_t c2 hf
      cases hf; exact frr_rf
    · have hf := ite_f c2 hf
      cases hf; exact frr_rf
  have hf := ite_f c1 hf
  rcases Decidable.em (nrm x0 = 3004) with c3 | c3
  · have hf := ite_t c3 hf
    rcases Decidable.em (nrm x2 ≤ nrm x1) with c4 | c4
    · have hf := ite_t c4 hf
      cases hf; exact frr_rf
    · have hf := ite_f c4 hf
      cases hf; exact frr_rf
  have hf := ite_f c3 hf
  rcases Decidable.em (nrm x0 = 3005) with c5 | c5
  · have hf := ite_t c5 hf
    rcases Decidable.em (nrm x1 ≤ nrm x2) with c6 | c6
    · have hf := ite_t c6 hf
      cases hf; exact frr_rf
    · have hf := ite_f c6 hf
      cases hf; exact frr_rf
  have hf := ite_f c5 hf
  rcases Decidable.em (nrm x0 = 3007) with c7 | c7
  · have hf := ite_t c7 hf
    cases hf; exact frr_rf
  have hf := ite_f c7 hf
  rcases Decidable.em (nrm x0 = 3008) with c8 | c8
  · have hf := ite_t c8 hf
    cases hf; exact frr_rf
  have hf := ite_f c8 hf
  exact frr_w_X12_between_81 hf
theorem frr_w_X12_reckons_272 (k71 : Int → Int → Int → Int → Mem → Option (Int × Mem)) (h71 : ∀ (x0 x1 x5 x6 : Int) (μ μ' : Mem) (r : Int), isK x0 12 → k71 x0 x1 x5 x6 μ = some (r, μ') → FrR μ μ') {x0 x1 x5 x6 : Int} {μ μ' : Mem} {r : Int} (t0 : isK x0 12) (hf : f_X12_reckons_j272 k71 x0 x1 x5 x6 μ = some (r, μ')) : FrR μ μ' := by
  unfold f_X12_reckons_j272 at hf
  exact h71 _ _ _ _ _ _ _ t0 hf
theorem frr_w_X12_reckons_235 (k71 : Int → Int → Int → Int → Mem → Option (Int × Mem)) (h71 : ∀ (x0 x1 x5 x6 : Int) (μ μ' : Mem) (r : Int), isK x0 12 → k71 x0 x1 x5 x6 μ = some (r, μ') → FrR μ μ') {x0 x1 x5 x6 s0 s1 s2 : Int} {μ μ' : Mem} {r : Int} (hb_s0 : s0 ≥ 111) (t0 : isK x0 12) (hf : f_X12_reckons_j235 k71 x0 x1 x5 x6 s0 s1 s2 μ = some (r, μ')) : FrR μ μ' := by
  unfold f_X12_reckons_j235 at hf
  obtain ⟨g3, hf⟩ := gd_some hf
  obtain ⟨μ1, e2, hf⟩ := nm_some hf
  have fq1 := (frr_ms (by omega) e2)
  exact fq1.trans (frr_w_X12_reckons_272 _ h71 t0 hf)
theorem frr_w_X12_reckons_146 (k71 : Int → Int → Int → Int → Mem → Option (Int × Mem)) (h71 : ∀ (x0 x1 x5 x6 : Int) (μ μ' : Mem) (r : Int), isK x0 12 → k71 x0 x1 x5 x6 μ = some (r, μ') → FrR μ μ') {x0 x1 x5 x6 s0 s1 s2 : Int} {μ μ' : Mem} {r : Int} (hb_s0 : s0 ≥ 111) (t0 : isK x0 12) (hf : f_X12_reckons_j146 k71 x0 x1 x5 x6 s0 s1 s2 μ = some (r, μ')) : FrR μ μ' := by
  unfold f_X12_reckons_j146 at hf
  obtain ⟨g3, hf⟩ := gd_some hf
  obtain ⟨μ1, e2, hf⟩ := nm_some hf
  have fq2 := (frr_ms (by omega) e2)
  exact fq2.trans (frr_w_X12_reckons_272 _ h71 t0 hf)
theorem frr_w_X12_reckons_71 : ∀ (n : Nat) (x0 x1 x5 x6 : Int) (μ μ' : Mem) (r : Int), isK x0 12 → f_X12_reckons_w71 n x0 x1 x5 x6 μ = some (r, μ') → FrR μ μ' := by
  intro n
  induction n with
  | zero => intro x0 x1 x5 x6 μ μ' r t0 hf; cases hf
  | succ n ih =>
    intro x0 x1 x5 x6 μ μ' r t0 hf
    rw [f_X12_reckons_w71.eq_2] at hf
    obtain ⟨g1, hf⟩ := gd_some hf
    rcases Decidable.em (nrm (μ (x0 + 1) (nrm (9 + x1))) ≤ nrm x6) with c2 | c2
    · have hf := ite_t c2 hf
      cases hf; exact frr_rf
    · have hf := ite_f c2 hf
      obtain ⟨g3, hf⟩ := gd_some hf
      obtain ⟨g4, hf⟩ := gd_some hf
      obtain ⟨v5, e6, hf⟩ := nm_some hf
      rcases Decidable.em (nrm 3000 ≤ nrm v5) with c7 | c7
      · have hf := ite_t c7 hf
        rcases Decidable.em (nrm v5 = nrm 3006) with c8 | c8
        · have hf := ite_t c8 hf
          obtain ⟨g22, hf⟩ := gd_some hf
          obtain ⟨g25, hf⟩ := gd_some hf
          obtain ⟨μ23, e24, hf⟩ := nm_some hf
          have fq5 := (frr_ms (by have := bd_12 t0; omega) e24)
          exact fq5.trans (frr_w_X12_reckons_272 _ ih t0 hf)
        · have hf := ite_f c8 hf
          rcases Decidable.em (nrm v5 = nrm 3009) with c9 | c9
          · have hf := ite_t c9 hf
            obtain ⟨g18, hf⟩ := gd_some hf
            rcases Decidable.em (nrm (μ (x0 + 5) (nrm ((x5 + (-2)) - 1))) = nrm 1) with c19 | c19
            · have hf := ite_t c19 hf
              obtain ⟨g21, hf⟩ := gd_some hf
              exact frr_w_X12_reckons_235 _ ih (by have := bd_12 t0; omega) t0 hf
            · have hf := ite_f c19 hf
              obtain ⟨g20, hf⟩ := gd_some hf
              exact frr_w_X12_reckons_235 _ ih (by have := bd_12 t0; omega) t0 hf
          · have hf := ite_f c9 hf
            obtain ⟨g10, hf⟩ := gd_some hf
            obtain ⟨g11, hf⟩ := gd_some hf
            obtain ⟨r13, μ12, e14, hf⟩ := bn_some hf
            have fq3 := (frr_X12_between e14)
            obtain ⟨g17, hf⟩ := gd_some hf
            obtain ⟨μ15, e16, hf⟩ := nm_some hf
            have fq4 := fq3.trans (frr_ms (by have := bd_12 t0; omega) e16)
            exact fq4.trans (frr_w_X12_reckons_272 _ ih t0 hf)
      · have hf := ite_f c7 hf
        rcases Decidable.em (nrm 1000 ≤ nrm v5) with c26 | c26
        · have hf := ite_t c26 hf
          obtain ⟨g27, hf⟩ := gd_some hf
          exact frr_w_X12_reckons_146 _ ih (by have := bd_12 t0; omega) t0 hf
        · have hf := ite_f c26 hf
          exact frr_w_X12_reckons_146 _ ih (by have := bd_12 t0; omega) t0 hf
theorem frr_X12_reckons {x0 x1 x2 x3 x4 : Int} {μ μ' : Mem} {r : Int} (t0 : isK x0 12) (hf : f_X12_reckons x0 x1 x2 x3 x4 μ = some (r, μ')) : FrR μ μ' := by
  unfold f_X12_reckons at hf
  obtain ⟨μ1, e2, hf⟩ := nm_some hf
  have fq6 := (frr_ms (by have := bd_12 t0; omega) e2)
  obtain ⟨μ3, e4, hf⟩ := nm_some hf
  have fq7 := fq6.trans (frr_ms (by have := bd_12 t0; omega) e4)
  obtain ⟨g5, hf⟩ := gd_some hf
  obtain ⟨μ6, e7, hf⟩ := nm_some hf
  have fq8 := fq7.trans (frr_ms (by have := bd_12 t0; omega) e7)
  obtain ⟨μ8, e9, hf⟩ := nm_some hf
  have fq9 := fq8.trans (frr_ms (by have := bd_12 t0; omega) e9)
  obtain ⟨μ10, e11, hf⟩ := nm_some hf
  have fq10 := fq9.trans (frr_ms (by have := bd_12 t0; omega) e11)
  obtain ⟨r13, μ12, e14, hf⟩ := bn_some hf
  have fq11 := fq10.trans (frr_X12_bitsOf e14)
  obtain ⟨μ15, e16, hf⟩ := nm_some hf
  have fq12 := fq11.trans (frr_ms (by have := bd_12 t0; omega) e16)
  exact fq12.trans (frr_w_X12_reckons_71 FU _ _ _ _ _ _ _ t0 hf)
theorem frr_X12_mayGo {x0 x1 x2 : Int} {μ μ' : Mem} {r : Int} (t0 : isK x0 12) (hf : f_X12_mayGo x0 x1 x2 μ = some (r, μ')) : FrR μ μ' := by
  unfold f_X12_mayGo at hf
  rcases Decidable.em (nrm (μ (x0 + 1) 6) = 0) with c1 | c1
  · have hf := ite_t c1 hf
    rcases Decidable.em (nrm (μ (x0 + 1) 4) < nrm x2) with c6 | c6
    · have hf := ite_t c6 hf
      cases hf; exact frr_rf
    · have hf := ite_f c6 hf
      cases hf; exact frr_rf
  · have hf := ite_f c1 hf
    obtain ⟨r3, μ2, e4, hf⟩ := bn_some hf
    have fq1 := (frr_X12_reckons t0 e4)
    rcases Decidable.em (nrm r3 = nrm 1) with c5 | c5
    · have hf := ite_t c5 hf
      cases hf; exact fq1
    · have hf := ite_f c5 hf
      cases hf; exact fq1
theorem frr_X12_isOpen {x0 x1 : Int} {μ μ' : Mem} {r : Int} (t0 : isK x0 12) (hf : f_X12_isOpen x0 x1 μ = some (r, μ')) : FrR μ μ' := by
  unfold f_X12_isOpen at hf
  obtain ⟨g1, hf⟩ := gd_some hf
  obtain ⟨r3, μ2, e4, hf⟩ := bn_some hf
  have fq1 := (frr_X12_mayGo t0 e4)
  obtain ⟨g5, hf⟩ := gd_some hf
  cases hf; exact fq1
theorem frr_w_X12_wornTo_43 {s0 : Int} {μ μ' : Mem} {r : Int} (hf : f_X12_wornTo_j43 s0 μ = some (r, μ')) : FrR μ μ' := by
  unfold f_X12_wornTo_j43 at hf
  rcases Decidable.em (0 ≤ nrm s0) with c1 | c1
  · have hf := ite_t c1 hf
    rcases Decidable.em (nrm s0 ≤ nrm 6) with c2 | c2
    · have hf := ite_t c2 hf
      cases hf; exact frr_rf
    · have hf := ite_f c2 hf
      cases hf; exact frr_rf
  · have hf := ite_f c1 hf
    cases hf; exact frr_rf
theorem frr_X12_wornTo {x0 x1 x2 x3 : Int} {μ μ' : Mem} {r : Int} (t0 : isK x0 12) (hf : f_X12_wornTo x0 x1 x2 x3 μ = some (r, μ')) : FrR μ μ' := by
  unfold f_X12_wornTo at hf
  rcases Decidable.em (nrm (μ (x0 + 1) 5) = nrm 1) with c1 | c1
  · have hf := ite_t c1 hf
    obtain ⟨r5, μ4, e6, hf⟩ := bn_some hf
    have fq1 := (frr_X12_reckons t0 e6)
    exact fq1.trans (frr_w_X12_wornTo_43 hf)
  · have hf := ite_f c1 hf
    obtain ⟨g2, hf⟩ := gd_some hf
    rcases Decidable.em (nrm ((μ (x0 + 1) (nrm (29 + x1))) + x3) ≤ nrm 5) with c3 | c3
    · have hf := ite_t c3 hf
      exact frr_w_X12_wornTo_43 hf
    · have hf := ite_f c3 hf
      exact frr_w_X12_wornTo_43 hf
theorem frr_w_X12_fillingsOf_2 : ∀ (n : Nat) (x0 x1 x2 : Int) (μ μ' : Mem) (r : Int), isK x0 12 → f_X12_fillingsOf_w2 n x0 x1 x2 μ = some (r, μ') → FrR μ μ' := by
  intro n
  induction n with
  | zero => intro x0 x1 x2 μ μ' r t0 hf; cases hf
  | succ n ih =>
    intro x0 x1 x2 μ μ' r t0 hf
    rw [f_X12_fillingsOf_w2.eq_2] at hf
    obtain ⟨g1, hf⟩ := gd_some hf
    rcases Decidable.em (nrm (μ (x0 + 1) (nrm (56 + x1))) < nrm x2) with c2 | c2
    · have hf := ite_t c2 hf
      cases hf; exact frr_rf
    · have hf := ite_f c2 hf
      obtain ⟨g3, hf⟩ := gd_some hf
      obtain ⟨r5, μ4, e6, hf⟩ := bn_some hf
      have fq1 := (frr_X12_mayGo t0 e6)
      rcases Decidable.em (nrm r5 = 0) with c7 | c7
      · have hf := ite_t c7 hf
        exact fq1.trans (ih _ _ _ _ _ _ t0 hf)
      · have hf := ite_f c7 hf
        cases hf; exact fq1
theorem frr_X12_fillingsOf {x0 x1 : Int} {μ μ' : Mem} {r : Int} (t0 : isK x0 12) (hf : f_X12_fillingsOf x0 x1 μ = some (r, μ')) : FrR μ μ' := by
  unfold f_X12_fillingsOf at hf
  exact frr_w_X12_fillingsOf_2 FU _ _ _ _ _ _ t0 hf
theorem frr_X12_whyGo {x0 x1 : Int} {μ μ' : Mem} {r : Int} (t0 : isK x0 12) (hf : f_X12_whyGo x0 x1 μ = some (r, μ')) : FrR μ μ' := by
  unfold f_X12_whyGo at hf
  obtain ⟨r2, μ1, e3, hf⟩ := bn_some hf
  have fq1 := (frr_X12_isLane t0 e3)
  rcases Decidable.em (nrm r2 = 0) with c4 | c4
  · have hf := ite_t c4 hf
    cases hf; exact fq1
  · have hf := ite_f c4 hf
    obtain ⟨r6, μ5, e7, hf⟩ := bn_some hf
    have fq2 := fq1.trans (frr_X12_otherEnd t0 e7)
    rcases Decidable.em (nrm r6 = nrm (-1)) with c8 | c8
    · have hf := ite_t c8 hf
      cases hf; exact fq2
    · have hf := ite_f c8 hf
      obtain ⟨r10, μ9, e11, hf⟩ := bn_some hf
      have fq3 := fq2.trans (frr_X12_isOpen t0 e11)
      rcases Decidable.em (nrm r10 = 0) with c12 | c12
      · have hf := ite_t c12 hf
        cases hf; exact fq3
      · have hf := ite_f c12 hf
        cases hf; exact fq3
theorem frr_X12_lane {x0 x1 x2 : Int} {μ μ' : Mem} {r : Int} (t0 : isK x0 12) (hf : f_X12_lane x0 x1 x2 μ = some (r, μ')) : FrR μ μ' := by
  unfold f_X12_lane at hf
  obtain ⟨μ1, e2, hf⟩ := nm_some hf
  have fq1 := (frr_ms (by have := bd_12 t0; omega) e2)
  obtain ⟨r4, μ3, e5, hf⟩ := bn_some hf
  have fq2 := fq1.trans (frr_X12_isLane t0 e5)
  rcases Decidable.em (nrm r4 = 0) with c6 | c6
  · have hf := ite_t c6 hf
    cases hf; exact fq2
  · have hf := ite_f c6 hf
    rcases Decidable.em (nrm x2 = 0) with c7 | c7
    · have hf := ite_t c7 hf
      obtain ⟨g8, hf⟩ := gd_some hf
      cases hf; exact fq2
    have hf := ite_f c7 hf
    rcases Decidable.em (nrm x2 = 1) with c9 | c9
    · have hf := ite_t c9 hf
      obtain ⟨g10, hf⟩ := gd_some hf
      cases hf; exact fq2
    have hf := ite_f c9 hf
    rcases Decidable.em (nrm x2 = 2) with c11 | c11
    · have hf := ite_t c11 hf
      obtain ⟨g12, hf⟩ := gd_some hf
      cases hf; exact fq2
    have hf := ite_f c11 hf
    rcases Decidable.em (nrm x2 = 3) with c13 | c13
    · have hf := ite_t c13 hf
      obtain ⟨g14, hf⟩ := gd_some hf
      cases hf; exact fq2
    have hf := ite_f c13 hf
    rcases Decidable.em (nrm x2 = 4) with c15 | c15
    · have hf := ite_t c15 hf
      obtain ⟨g16, hf⟩ := gd_some hf
      cases hf; exact fq2
    have hf := ite_f c15 hf
    rcases Decidable.em (nrm x2 = 5) with c17 | c17
    · have hf := ite_t c17 hf
      obtain ⟨r19, μ18, e20, hf⟩ := bn_some hf
      have fq3 := fq2.trans (frr_X12_isOpen t0 e20)
      rcases Decidable.em (nrm r19 = 0) with c21 | c21
      · have hf := ite_t c21 hf
        cases hf; exact fq3
      · have hf := ite_f c21 hf
        cases hf; exact fq3
    have hf := ite_f c17 hf
    cases hf; exact fq2
theorem frr_X12_why {x0 x1 : Int} {μ μ' : Mem} {r : Int} (t0 : isK x0 12) (hf : f_X12_why x0 x1 μ = some (r, μ')) : FrR μ μ' := by
  unfold f_X12_why at hf
  obtain ⟨μ1, e2, hf⟩ := nm_some hf
  have fq1 := (frr_ms (by have := bd_12 t0; omega) e2)
  obtain ⟨r4, μ3, e5, hf⟩ := bn_some hf
  have fq2 := fq1.trans (frr_X12_whyGo t0 e5)
  cases hf; exact fq2
theorem frr_X12_worn {x0 x1 : Int} {μ μ' : Mem} {r : Int} (t0 : isK x0 12) (hf : f_X12_worn x0 x1 μ = some (r, μ')) : FrR μ μ' := by
  unfold f_X12_worn at hf
  obtain ⟨μ1, e2, hf⟩ := nm_some hf
  have fq1 := (frr_ms (by have := bd_12 t0; omega) e2)
  obtain ⟨r4, μ3, e5, hf⟩ := bn_some hf
  have fq2 := fq1.trans (frr_X12_isLane t0 e5)
  rcases Decidable.em (nrm r4 = 0) with c6 | c6
  · have hf := ite_t c6 hf
    cases hf; exact fq2
  · have hf := ite_f c6 hf
    obtain ⟨g7, hf⟩ := gd_some hf
    obtain ⟨r9, μ8, e10, hf⟩ := bn_some hf
    have fq3 := fq2.trans (frr_X12_wornTo t0 e10)
    cases hf; exact fq3
theorem frr_X12_fillings {x0 x1 : Int} {μ μ' : Mem} {r : Int} (t0 : isK x0 12) (hf : f_X12_fillings x0 x1 μ = some (r, μ')) : FrR μ μ' := by
  unfold f_X12_fillings at hf
  obtain ⟨μ1, e2, hf⟩ := nm_some hf
  have fq1 := (frr_ms (by have := bd_12 t0; omega) e2)
  obtain ⟨r4, μ3, e5, hf⟩ := bn_some hf
  have fq2 := fq1.trans (frr_X12_isLane t0 e5)
  rcases Decidable.em (nrm r4 = 0) with c6 | c6
  · have hf := ite_t c6 hf
    cases hf; exact fq2
  · have hf := ite_f c6 hf
    obtain ⟨r8, μ7, e9, hf⟩ := bn_some hf
    have fq3 := fq2.trans (frr_X12_fillingsOf t0 e9)
    cases hf; exact fq3
theorem frr_w_X12_stores_2 : ∀ (n : Nat) (x0 x1 : Int) (μ μ' : Mem) (r : Int), isK x0 12 → f_X12_stores_w2 n x0 x1 μ = some (r, μ') → FrR μ μ' := by
  intro n
  induction n with
  | zero => intro x0 x1 μ μ' r t0 hf; cases hf
  | succ n ih =>
    intro x0 x1 μ μ' r t0 hf
    rw [f_X12_stores_w2.eq_2] at hf
    rcases Decidable.em (nrm 13 ≤ nrm x1) with c1 | c1
    · have hf := ite_t c1 hf
      cases hf; exact frr_rf
    · have hf := ite_f c1 hf
      obtain ⟨g2, hf⟩ := gd_some hf
      obtain ⟨g5, hf⟩ := gd_some hf
      obtain ⟨μ3, e4, hf⟩ := nm_some hf
      have fq1 := (frr_ms (by have := bd_12 t0; omega) e4)
      exact fq1.trans (ih _ _ _ _ _ t0 hf)
theorem frr_X12_stores {x0 : Int} {μ μ' : Mem} {r : Int} (t0 : isK x0 12) (hf : f_X12_stores x0 μ = some (r, μ')) : FrR μ μ' := by
  unfold f_X12_stores at hf
  exact frr_w_X12_stores_2 FU _ _ _ _ _ t0 hf
theorem frr_w_X12_isAgain_2 : ∀ (n : Nat) (x0 x1 : Int) (μ μ' : Mem) (r : Int), isK x0 12 → f_X12_isAgain_w2 n x0 x1 μ = some (r, μ') → FrR μ μ' := by
  intro n
  induction n with
  | zero => intro x0 x1 μ μ' r t0 hf; cases hf
  | succ n ih =>
    intro x0 x1 μ μ' r t0 hf
    rw [f_X12_isAgain_w2.eq_2] at hf
    rcases Decidable.em (nrm 13 ≤ nrm x1) with c1 | c1
    · have hf := ite_t c1 hf
      cases hf; exact frr_rf
    · have hf := ite_f c1 hf
      obtain ⟨g2, hf⟩ := gd_some hf
      obtain ⟨g5, hf⟩ := gd_some hf
      obtain ⟨μ3, e4, hf⟩ := nm_some hf
      have fq1 := (frr_ms (by have := bd_12 t0; omega) e4)
      exact fq1.trans (ih _ _ _ _ _ t0 hf)
theorem frr_X12_isAgain {x0 : Int} {μ μ' : Mem} {r : Int} (t0 : isK x0 12) (hf : f_X12_isAgain x0 μ = some (r, μ')) : FrR μ μ' := by
  unfold f_X12_isAgain at hf
  exact frr_w_X12_isAgain_2 FU _ _ _ _ _ t0 hf
theorem frr_w_X12_notes_57 : ∀ (n : Nat) (x0 x1 : Int) (μ μ' : Mem) (r : Int), isK x0 12 → f_X12_notes_w57 n x0 x1 μ = some (r, μ') → FrR μ μ' := by
  intro n
  induction n with
  | zero => intro x0 x1 μ μ' r t0 hf; cases hf
  | succ n ih =>
    intro x0 x1 μ μ' r t0 hf
    rw [f_X12_notes_w57.eq_2] at hf
    rcases Decidable.em (nrm 13 ≤ nrm x1) with c1 | c1
    · have hf := ite_t c1 hf
      obtain ⟨μ2, e3, hf⟩ := nm_some hf
      have fq1 := (frr_ms (by have := bd_12 t0; omega) e3)
      cases hf; exact fq1
    · have hf := ite_f c1 hf
      obtain ⟨g4, hf⟩ := gd_some hf
      obtain ⟨g7, hf⟩ := gd_some hf
      obtain ⟨μ5, e6, hf⟩ := nm_some hf
      have fq2 := (frr_ms (by have := bd_12 t0; omega) e6)
      exact fq2.trans (ih _ _ _ _ _ t0 hf)
theorem frr_w_X12_notes_55 {x0 : Int} {μ μ' : Mem} {r : Int} (t0 : isK x0 12) (hf : f_X12_notes_j55 x0 μ = some (r, μ')) : FrR μ μ' := by
  unfold f_X12_notes_j55 at hf
  exact frr_w_X12_notes_57 FU _ _ _ _ _ t0 hf
theorem frr_w_X12_notes_14 : ∀ (n : Nat) (x0 x1 : Int) (μ μ' : Mem) (r : Int), isK x0 12 → f_X12_notes_w14 n x0 x1 μ = some (r, μ') → FrR μ μ' := by
  intro n
  induction n with
  | zero => intro x0 x1 μ μ' r t0 hf; cases hf
  | succ n ih =>
    intro x0 x1 μ μ' r t0 hf
    rw [f_X12_notes_w14.eq_2] at hf
    rcases Decidable.em (nrm 117 ≤ nrm x1) with c1 | c1
    · have hf := ite_t c1 hf
      obtain ⟨μ2, e3, hf⟩ := nm_some hf
      have fq3 := (frr_ms (by have := bd_12 t0; omega) e3)
      exact fq3.trans (frr_w_X12_notes_55 t0 hf)
    · have hf := ite_f c1 hf
      obtain ⟨g4, hf⟩ := gd_some hf
      obtain ⟨g7, hf⟩ := gd_some hf
      obtain ⟨μ5, e6, hf⟩ := nm_some hf
      have fq4 := (frr_ms (by have := bd_12 t0; omega) e6)
      exact fq4.trans (ih _ _ _ _ _ t0 hf)
theorem frr_X12_notes {x0 : Int} {μ μ' : Mem} {r : Int} (t0 : isK x0 12) (hf : f_X12_notes x0 μ = some (r, μ')) : FrR μ μ' := by
  unfold f_X12_notes at hf
  rcases Decidable.em (nrm (μ (x0 + 1) 68) = nrm 10) with c1 | c1
  · have hf := ite_t c1 hf
    exact frr_w_X12_notes_14 FU _ _ _ _ _ t0 hf
  · have hf := ite_f c1 hf
    exact frr_w_X12_notes_55 t0 hf
theorem frr_X12_goes {x0 x1 : Int} {μ μ' : Mem} {r : Int} (t0 : isK x0 12) (hf : f_X12_goes x0 x1 μ = some (r, μ')) : FrR μ μ' := by
  unfold f_X12_goes at hf
  obtain ⟨r2, μ1, e3, hf⟩ := bn_some hf
  have fq1 := (frr_X12_otherEnd t0 e3)
  obtain ⟨μ4, e5, hf⟩ := nm_some hf
  have fq2 := fq1.trans (frr_ms (by have := bd_12 t0; omega) e5)
  obtain ⟨g6, hf⟩ := gd_some hf
  obtain ⟨r8, μ7, e9, hf⟩ := bn_some hf
  have fq3 := fq2.trans (frr_X12_wornTo t0 e9)
  obtain ⟨g12, hf⟩ := gd_some hf
  obtain ⟨μ10, e11, hf⟩ := nm_some hf
  have fq4 := fq3.trans (frr_ms (by have := bd_12 t0; omega) e11)
  obtain ⟨μ13, e14, hf⟩ := nm_some hf
  have fq5 := fq4.trans (frr_ms (by have := bd_12 t0; omega) e14)
  cases hf; exact fq5
theorem frr_X12_go {x0 x1 : Int} {μ μ' : Mem} {r : Int} (t0 : isK x0 12) (hf : f_X12_go x0 x1 μ = some (r, μ')) : FrR μ μ' := by
  unfold f_X12_go at hf
  obtain ⟨μ1, e2, hf⟩ := nm_some hf
  have fq1 := (frr_ms (by have := bd_12 t0; omega) e2)
  obtain ⟨r4, μ3, e5, hf⟩ := bn_some hf
  have fq2 := fq1.trans (frr_X12_whyGo t0 e5)
  rcases Decidable.em (nrm r4 = 0) with c6 | c6
  · have hf := ite_t c6 hf
    obtain ⟨r8, μ7, e9, hf⟩ := bn_some hf
    have fq3 := fq2.trans (frr_X12_stores t0 e9)
    obtain ⟨r11, μ10, e12, hf⟩ := bn_some hf
    have fq4 := fq3.trans (frr_X12_goes t0 e12)
    obtain ⟨r14, μ13, e15, hf⟩ := bn_some hf
    have fq5 := fq4.trans (frr_X12_notes t0 e15)
    cases hf; exact fq5
  · have hf := ite_f c6 hf
    cases hf; exact fq2
theorem frr_w_X12_whyRut_32 {s0 s1 : Int} {μ μ' : Mem} {r : Int} (hf : f_X12_whyRut_j32 s0 s1 μ = some (r, μ')) : FrR μ μ' := by
  unfold f_X12_whyRut_j32 at hf
  rcases Decidable.em (nrm s0 = nrm s1) with c1 | c1
  · have hf := ite_t c1 hf
    cases hf; exact frr_rf
  · have hf := ite_f c1 hf
    cases hf; exact frr_rf
theorem frr_X12_whyRut {x0 x1 x3 : Int} {μ μ' : Mem} {r : Int} (t0 : isK x0 12) (hf : f_X12_whyRut x0 x1 x3 μ = some (r, μ')) : FrR μ μ' := by
  unfold f_X12_whyRut at hf
  obtain ⟨r2, μ1, e3, hf⟩ := bn_some hf
  have fq1 := (frr_X12_isLane t0 e3)
  rcases Decidable.em (nrm r2 = 0) with c4 | c4
  · have hf := ite_t c4 hf
    cases hf; exact fq1
  · have hf := ite_f c4 hf
    obtain ⟨g5, hf⟩ := gd_some hf
    rcases Decidable.em (0 ≤ nrm x3) with c6 | c6
    · have hf := ite_t c6 hf
      exact fq1.trans (frr_w_X12_whyRut_32 hf)
    · have hf := ite_f c6 hf
      exact fq1.trans (frr_w_X12_whyRut_32 hf)
theorem frr_X12_shovels {x0 x1 x2 : Int} {μ μ' : Mem} {r : Int} (t0 : isK x0 12) (hf : f_X12_shovels x0 x1 x2 μ = some (r, μ')) : FrR μ μ' := by
  unfold f_X12_shovels at hf
  obtain ⟨r2, μ1, e3, hf⟩ := bn_some hf
  have fq1 := (frr_X12_whyRut t0 e3)
  rcases Decidable.em (nrm r2 = 0) with c4 | c4
  · have hf := ite_t c4 hf
    obtain ⟨r6, μ5, e7, hf⟩ := bn_some hf
    have fq2 := fq1.trans (frr_X12_stores t0 e7)
    obtain ⟨g8, hf⟩ := gd_some hf
    obtain ⟨g11, hf⟩ := gd_some hf
    obtain ⟨μ9, e10, hf⟩ := nm_some hf
    have fq3 := fq2.trans (frr_ms (by have := bd_12 t0; omega) e10)
    obtain ⟨r13, μ12, e14, hf⟩ := bn_some hf
    have fq4 := fq3.trans (frr_X12_notes t0 e14)
    obtain ⟨g15, hf⟩ := gd_some hf
    cases hf; exact fq4
  · have hf := ite_f c4 hf
    cases hf; exact fq1
theorem frr_X12_fill {x0 x1 : Int} {μ μ' : Mem} {r : Int} (t0 : isK x0 12) (hf : f_X12_fill x0 x1 μ = some (r, μ')) : FrR μ μ' := by
  unfold f_X12_fill at hf
  obtain ⟨μ1, e2, hf⟩ := nm_some hf
  have fq1 := (frr_ms (by have := bd_12 t0; omega) e2)
  obtain ⟨r4, μ3, e5, hf⟩ := bn_some hf
  have fq2 := fq1.trans (frr_X12_shovels t0 e5)
  cases hf; exact fq2
theorem frr_X12_dig {x0 x1 : Int} {μ μ' : Mem} {r : Int} (t0 : isK x0 12) (hf : f_X12_dig x0 x1 μ = some (r, μ')) : FrR μ μ' := by
  unfold f_X12_dig at hf
  obtain ⟨μ1, e2, hf⟩ := nm_some hf
  have fq1 := (frr_ms (by have := bd_12 t0; omega) e2)
  obtain ⟨r4, μ3, e5, hf⟩ := bn_some hf
  have fq2 := fq1.trans (frr_X12_shovels t0 e5)
  cases hf; exact fq2
theorem frr_X12_turn {x0 x1 : Int} {μ μ' : Mem} {r : Int} (t0 : isK x0 12) (hf : f_X12_turn x0 x1 μ = some (r, μ')) : FrR μ μ' := by
  unfold f_X12_turn at hf
  obtain ⟨μ1, e2, hf⟩ := nm_some hf
  have fq1 := (frr_ms (by have := bd_12 t0; omega) e2)
  obtain ⟨r4, μ3, e5, hf⟩ := bn_some hf
  have fq2 := fq1.trans (frr_X12_isPerson t0 e5)
  rcases Decidable.em (nrm r4 = 0) with c6 | c6
  · have hf := ite_t c6 hf
    cases hf; exact fq2
  · have hf := ite_f c6 hf
    obtain ⟨r8, μ7, e9, hf⟩ := bn_some hf
    have fq3 := fq2.trans (frr_X12_stores t0 e9)
    obtain ⟨μ10, e11, hf⟩ := nm_some hf
    have fq4 := fq3.trans (frr_ms (by have := bd_12 t0; omega) e11)
    obtain ⟨r13, μ12, e14, hf⟩ := bn_some hf
    have fq5 := fq4.trans (frr_X12_notes t0 e14)
    cases hf; exact fq5
theorem frr_w_X12_seasonTo_38 (k4 : Int → Int → Int → Int → Mem → Option (Int × Mem)) (h4 : ∀ (x0 x1 x2 x3 : Int) (μ μ' : Mem) (r : Int), isK x0 12 → k4 x0 x1 x2 x3 μ = some (r, μ') → FrR μ μ') {x0 x1 x3 s0 s1 : Int} {μ μ' : Mem} {r : Int} (t0 : isK x0 12) (hf : f_X12_seasonTo_j38 k4 x0 x1 x3 s0 s1 μ = some (r, μ')) : FrR μ μ' := by
  unfold f_X12_seasonTo_j38 at hf
  obtain ⟨v1, e2, hf⟩ := nm_some hf
  exact h4 _ _ _ _ _ _ _ t0 hf
theorem frr_w_X12_seasonTo_4 : ∀ (n : Nat) (x0 x1 x2 x3 : Int) (μ μ' : Mem) (r : Int), isK x0 12 → f_X12_seasonTo_w4 n x0 x1 x2 x3 μ = some (r, μ') → FrR μ μ' := by
  intro n
  induction n with
  | zero => intro x0 x1 x2 x3 μ μ' r t0 hf; cases hf
  | succ n ih =>
    intro x0 x1 x2 x3 μ μ' r t0 hf
    rw [f_X12_seasonTo_w4.eq_2] at hf
    rcases Decidable.em (nrm (μ (x0 + 1) 3) ≤ nrm x3) with c1 | c1
    · have hf := ite_t c1 hf
      cases hf; exact frr_rf
    · have hf := ite_f c1 hf
      obtain ⟨r3, μ2, e4, hf⟩ := bn_some hf
      have fq1 := (frr_X12_bitsOf e4)
      obtain ⟨g5, hf⟩ := gd_some hf
      rcases Decidable.em (nrm r3 < nrm (μ2 (x0 + 1) (nrm (47 + x3)))) with c6 | c6
      · have hf := ite_t c6 hf
        exact fq1.trans (frr_w_X12_seasonTo_38 _ ih t0 hf)
      · have hf := ite_f c6 hf
        exact fq1.trans (frr_w_X12_seasonTo_38 _ ih t0 hf)
theorem frr_X12_seasonTo {x0 x1 : Int} {μ μ' : Mem} {r : Int} (t0 : isK x0 12) (hf : f_X12_seasonTo x0 x1 μ = some (r, μ')) : FrR μ μ' := by
  unfold f_X12_seasonTo at hf
  exact frr_w_X12_seasonTo_4 FU _ _ _ _ _ _ _ t0 hf
theorem frr_w_X12_seasons_26 : ∀ (n : Nat) (x0 x1 x2 : Int) (μ μ' : Mem) (r : Int), isK x0 12 → f_X12_seasons_w26 n x0 x1 x2 μ = some (r, μ') → FrR μ μ' := by
  intro n
  induction n with
  | zero => intro x0 x1 x2 μ μ' r t0 hf; cases hf
  | succ n ih =>
    intro x0 x1 x2 μ μ' r t0 hf
    rw [f_X12_seasons_w26.eq_2] at hf
    rcases Decidable.em (nrm x1 ≤ nrm x2) with c1 | c1
    · have hf := ite_t c1 hf
      obtain ⟨r3, μ2, e4, hf⟩ := bn_some hf
      have fq1 := (frr_X12_notes t0 e4)
      obtain ⟨r6, μ5, e7, hf⟩ := bn_some hf
      have fq2 := fq1.trans (frr_X12_bitsOf e7)
      cases hf; exact fq2
    · have hf := ite_f c1 hf
      obtain ⟨r9, μ8, e10, hf⟩ := bn_some hf
      have fq3 := (frr_X12_seasonTo t0 e10)
      obtain ⟨μ11, e12, hf⟩ := nm_some hf
      have fq4 := fq3.trans (frr_ms (by have := bd_12 t0; omega) e12)
      exact fq4.trans (ih _ _ _ _ _ _ t0 hf)
theorem frr_X12_seasons {x0 x1 : Int} {μ μ' : Mem} {r : Int} (t0 : isK x0 12) (hf : f_X12_seasons x0 x1 μ = some (r, μ')) : FrR μ μ' := by
  unfold f_X12_seasons at hf
  obtain ⟨μ1, e2, hf⟩ := nm_some hf
  have fq5 := (frr_ms (by have := bd_12 t0; omega) e2)
  obtain ⟨r4, μ3, e5, hf⟩ := bn_some hf
  have fq6 := fq5.trans (frr_X12_within e5)
  rcases Decidable.em (nrm r4 = 0) with c6 | c6
  · have hf := ite_t c6 hf
    cases hf; exact fq6
  · have hf := ite_f c6 hf
    obtain ⟨r8, μ7, e9, hf⟩ := bn_some hf
    have fq7 := fq6.trans (frr_X12_stores t0 e9)
    exact fq7.trans (frr_w_X12_seasons_26 FU _ _ _ _ _ _ t0 hf)
theorem frr_X12_rain {x0 x1 : Int} {μ μ' : Mem} {r : Int} (t0 : isK x0 12) (hf : f_X12_rain x0 x1 μ = some (r, μ')) : FrR μ μ' := by
  unfold f_X12_rain at hf
  obtain ⟨μ1, e2, hf⟩ := nm_some hf
  have fq1 := (frr_ms (by have := bd_12 t0; omega) e2)
  obtain ⟨r4, μ3, e5, hf⟩ := bn_some hf
  have fq2 := fq1.trans (frr_X12_within e5)
  rcases Decidable.em (nrm r4 = 0) with c6 | c6
  · have hf := ite_t c6 hf
    cases hf; exact fq2
  · have hf := ite_f c6 hf
    obtain ⟨r8, μ7, e9, hf⟩ := bn_some hf
    have fq3 := fq2.trans (frr_X12_stores t0 e9)
    obtain ⟨μ10, e11, hf⟩ := nm_some hf
    have fq4 := fq3.trans (frr_ms (by have := bd_12 t0; omega) e11)
    obtain ⟨r13, μ12, e14, hf⟩ := bn_some hf
    have fq5 := fq4.trans (frr_X12_notes t0 e14)
    cases hf; exact fq5
theorem frr_w_X12_undo_44 : ∀ (n : Nat) (x0 x2 : Int) (μ μ' : Mem) (r : Int), isK x0 12 → f_X12_undo_w44 n x0 x2 μ = some (r, μ') → FrR μ μ' := by
  intro n
  induction n with
  | zero => intro x0 x2 μ μ' r t0 hf; cases hf
  | succ n ih =>
    intro x0 x2 μ μ' r t0 hf
    rw [f_X12_undo_w44.eq_2] at hf
    rcases Decidable.em (nrm 13 ≤ nrm x2) with c1 | c1
    · have hf := ite_t c1 hf
      cases hf; exact frr_rf
    · have hf := ite_f c1 hf
      obtain ⟨g2, hf⟩ := gd_some hf
      obtain ⟨g5, hf⟩ := gd_some hf
      obtain ⟨μ3, e4, hf⟩ := nm_some hf
      have fq1 := (frr_ms (by have := bd_12 t0; omega) e4)
      exact fq1.trans (ih _ _ _ _ _ t0 hf)
theorem frr_X12_undo {x0 x1 : Int} {μ μ' : Mem} {r : Int} (t0 : isK x0 12) (hf : f_X12_undo x0 x1 μ = some (r, μ')) : FrR μ μ' := by
  unfold f_X12_undo at hf
  obtain ⟨μ1, e2, hf⟩ := nm_some hf
  have fq2 := (frr_ms (by have := bd_12 t0; omega) e2)
  obtain ⟨r4, μ3, e5, hf⟩ := bn_some hf
  have fq3 := fq2.trans (frr_X12_within e5)
  rcases Decidable.em (nrm r4 = 0) with c6 | c6
  · have hf := ite_t c6 hf
    cases hf; exact fq3
  · have hf := ite_f c6 hf
    rcases Decidable.em (nrm x1 ≤ nrm (μ3 (x0 + 1) 68)) with c7 | c7
    · have hf := ite_t c7 hf
      obtain ⟨μ8, e9, hf⟩ := nm_some hf
      have fq4 := fq3.trans (frr_ms (by have := bd_12 t0; omega) e9)
      exact fq4.trans (frr_w_X12_undo_44 FU _ _ _ _ _ t0 hf)
    · have hf := ite_f c7 hf
      cases hf; exact fq3
theorem frr_w_X12_whyNot_49 {s0 s1 s2 : Int} {μ μ' : Mem} {r : Int} (hb_s0 : s0 ≥ 111) (hf : f_X12_whyNot_j49 s0 s1 s2 μ = some (r, μ')) : FrR μ μ' := by
  unfold f_X12_whyNot_j49 at hf
  obtain ⟨g1, hf⟩ := gd_some hf
  obtain ⟨r3, μ2, e4, hf⟩ := bn_some hf
  have fq1 := (frr_X12_whyRut g1 e4)
  cases hf; exact fq1
theorem frr_X12_whyNot {x0 x1 : Int} {μ μ' : Mem} {r : Int} (t0 : isK x0 12) (hf : f_X12_whyNot x0 x1 μ = some (r, μ')) : FrR μ μ' := by
  unfold f_X12_whyNot at hf
  obtain ⟨r2, μ1, e3, hf⟩ := bn_some hf
  have fq2 := (frr_X12_within e3)
  rcases Decidable.em (nrm r2 = 0) with c4 | c4
  · have hf := ite_t c4 hf
    obtain ⟨r6, μ5, e7, hf⟩ := bn_some hf
    have fq3 := fq2.trans (frr_X12_within e7)
    rcases Decidable.em (nrm r6 = 0) with c8 | c8
    · have hf := ite_t c8 hf
      obtain ⟨r10, μ9, e11, hf⟩ := bn_some hf
      have fq4 := fq3.trans (frr_X12_within e11)
      rcases Decidable.em (nrm r10 = 0) with c12 | c12
      · have hf := ite_t c12 hf
        obtain ⟨r14, μ13, e15, hf⟩ := bn_some hf
        have fq5 := fq4.trans (frr_X12_within e15)
        rcases Decidable.em (nrm r14 = 0) with c16 | c16
        · have hf := ite_t c16 hf
          rcases Decidable.em (nrm (kcmp x1 50) = 0) with c17 | c17
          · have hf := ite_t c17 hf
            cases hf; exact fq5
          · have hf := ite_f c17 hf
            cases hf; exact fq5
        · have hf := ite_f c16 hf
          cases hf; exact fq5
      · have hf := ite_f c12 hf
        obtain ⟨r19, μ18, e20, hf⟩ := bn_some hf
        have fq6 := fq4.trans (frr_X12_isPerson t0 e20)
        rcases Decidable.em (nrm r19 = 0) with c21 | c21
        · have hf := ite_t c21 hf
          cases hf; exact fq6
        · have hf := ite_f c21 hf
          cases hf; exact fq6
    · have hf := ite_f c8 hf
      rcases Decidable.em (0 ≤ nrm (kcmp x1 20)) with c22 | c22
      · have hf := ite_t c22 hf
        exact fq3.trans (frr_w_X12_whyNot_49 (by have := bd_12 t0; omega) hf)
      · have hf := ite_f c22 hf
        exact fq3.trans (frr_w_X12_whyNot_49 (by have := bd_12 t0; omega) hf)
  · have hf := ite_f c4 hf
    obtain ⟨r24, μ23, e25, hf⟩ := bn_some hf
    have fq7 := fq2.trans (frr_X12_whyGo t0 e25)
    cases hf; exact fq7
theorem frr_w_X12_does_44 {s0 s1 s2 s3 : Int} {μ μ' : Mem} {r : Int} (hb_s0 : s0 ≥ 111) (hf : f_X12_does_j44 s0 s1 s2 s3 μ = some (r, μ')) : FrR μ μ' := by
  unfold f_X12_does_j44 at hf
  obtain ⟨g3, hf⟩ := gd_some hf
  obtain ⟨μ1, e2, hf⟩ := nm_some hf
  have fq1 := (frr_ms (by omega) e2)
  cases hf; exact fq1
theorem frr_X12_does {x0 x1 : Int} {μ μ' : Mem} {r : Int} (t0 : isK x0 12) (hf : f_X12_does x0 x1 μ = some (r, μ')) : FrR μ μ' := by
  unfold f_X12_does at hf
  rcases Decidable.em (nrm 10 ≤ nrm x1) with c1 | c1
  · have hf := ite_t c1 hf
    rcases Decidable.em (nrm 30 ≤ nrm x1) with c2 | c2
    · have hf := ite_t c2 hf
      rcases Decidable.em (nrm 40 ≤ nrm x1) with c3 | c3
      · have hf := ite_t c3 hf
        rcases Decidable.em (nrm 50 ≤ nrm x1) with c4 | c4
        · have hf := ite_t c4 hf
          obtain ⟨r6, μ5, e7, hf⟩ := bn_some hf
          have fq2 := (frr_X12_seasonTo t0 e7)
          obtain ⟨μ8, e9, hf⟩ := nm_some hf
          have fq3 := fq2.trans (frr_ms (by have := bd_12 t0; omega) e9)
          cases hf; exact fq3
        · have hf := ite_f c4 hf
          obtain ⟨μ10, e11, hf⟩ := nm_some hf
          have fq4 := (frr_ms (by have := bd_12 t0; omega) e11)
          cases hf; exact fq4
      · have hf := ite_f c3 hf
        obtain ⟨μ12, e13, hf⟩ := nm_some hf
        have fq5 := (frr_ms (by have := bd_12 t0; omega) e13)
        cases hf; exact fq5
    · have hf := ite_f c2 hf
      obtain ⟨g14, hf⟩ := gd_some hf
      rcases Decidable.em (nrm 20 ≤ nrm x1) with c15 | c15
      · have hf := ite_t c15 hf
        exact frr_w_X12_does_44 (by have := bd_12 t0; omega) hf
      · have hf := ite_f c15 hf
        exact frr_w_X12_does_44 (by have := bd_12 t0; omega) hf
  · have hf := ite_f c1 hf
    obtain ⟨r17, μ16, e18, hf⟩ := bn_some hf
    have fq6 := (frr_X12_goes t0 e18)
    cases hf; exact fq6
theorem frr_w_X12_tells_7 : ∀ (n : Nat) (x0 x1 x2 : Int) (μ μ' : Mem) (r : Int), isK x0 12 → f_X12_tells_w7 n x0 x1 x2 μ = some (r, μ') → FrR μ μ' := by
  intro n
  induction n with
  | zero => intro x0 x1 x2 μ μ' r t0 hf; cases hf
  | succ n ih =>
    intro x0 x1 x2 μ μ' r t0 hf
    rw [f_X12_tells_w7.eq_2] at hf
    obtain ⟨g1, hf⟩ := gd_some hf
    rcases Decidable.em (nrm (μ (x0 + 16) (nrm x1)) ≤ nrm x2) with c2 | c2
    · have hf := ite_t c2 hf
      obtain ⟨g3, hf⟩ := gd_some hf
      cases hf; exact frr_rf
    · have hf := ite_f c2 hf
      obtain ⟨g4, hf⟩ := gd_some hf
      obtain ⟨r6, μ5, e7, hf⟩ := bn_some hf
      have fq1 := (frr_X12_whyNot t0 e7)
      obtain ⟨μ8, e9, hf⟩ := nm_some hf
      have fq2 := fq1.trans (frr_ms (by have := bd_12 t0; omega) e9)
      rcases Decidable.em (nrm (μ8 x0 19) = 0) with c10 | c10
      · have hf := ite_t c10 hf
        obtain ⟨g11, hf⟩ := gd_some hf
        obtain ⟨r13, μ12, e14, hf⟩ := bn_some hf
        have fq3 := fq2.trans (frr_X12_does t0 e14)
        exact fq3.trans (ih _ _ _ _ _ _ t0 hf)
      · have hf := ite_f c10 hf
        cases hf; exact fq2
theorem frr_X12_tells {x0 x1 : Int} {μ μ' : Mem} {r : Int} (t0 : isK x0 12) (hf : f_X12_tells x0 x1 μ = some (r, μ')) : FrR μ μ' := by
  unfold f_X12_tells at hf
  obtain ⟨μ1, e2, hf⟩ := nm_some hf
  have fq4 := (frr_ms (by have := bd_12 t0; omega) e2)
  exact fq4.trans (frr_w_X12_tells_7 FU _ _ _ _ _ _ t0 hf)
theorem frr_X12_noTray {x0 x1 : Int} {μ μ' : Mem} {r : Int} (t0 : isK x0 12) (hf : f_X12_noTray x0 x1 μ = some (r, μ')) : FrR μ μ' := by
  unfold f_X12_noTray at hf
  obtain ⟨r2, μ1, e3, hf⟩ := bn_some hf
  have fq1 := (frr_X12_within e3)
  rcases Decidable.em (nrm r2 = 0) with c4 | c4
  · have hf := ite_t c4 hf
    cases hf; exact fq1
  · have hf := ite_f c4 hf
    obtain ⟨g5, hf⟩ := gd_some hf
    rcases Decidable.em (nrm (μ1 (x0 + 15) (nrm x1)) = nrm (-1)) with c6 | c6
    · have hf := ite_t c6 hf
      cases hf; exact fq1
    · have hf := ite_f c6 hf
      cases hf; exact fq1
theorem frr_w_X12_depthSum_4 : ∀ (n : Nat) (x0 x1 x2 : Int) (μ μ' : Mem) (r : Int), isK x0 12 → f_X12_depthSum_w4 n x0 x1 x2 μ = some (r, μ') → FrR μ μ' := by
  intro n
  induction n with
  | zero => intro x0 x1 x2 μ μ' r t0 hf; cases hf
  | succ n ih =>
    intro x0 x1 x2 μ μ' r t0 hf
    rw [f_X12_depthSum_w4.eq_2] at hf
    rcases Decidable.em (nrm (μ (x0 + 1) 2) ≤ nrm x2) with c1 | c1
    · have hf := ite_t c1 hf
      cases hf; exact frr_rf
    · have hf := ite_f c1 hf
      obtain ⟨g2, hf⟩ := gd_some hf
      obtain ⟨v3, e4, hf⟩ := nm_some hf
      exact ih _ _ _ _ _ _ t0 hf
theorem frr_X12_depthSum {x0 : Int} {μ μ' : Mem} {r : Int} (t0 : isK x0 12) (hf : f_X12_depthSum x0 μ = some (r, μ')) : FrR μ μ' := by
  unfold f_X12_depthSum at hf
  exact frr_w_X12_depthSum_4 FU _ _ _ _ _ _ t0 hf
theorem frr_X12_judge {x0 x1 x2 : Int} {μ μ' : Mem} {r : Int} (t0 : isK x0 12) (hf : f_X12_judge x0 x1 x2 μ = some (r, μ')) : FrR μ μ' := by
  unfold f_X12_judge at hf
  obtain ⟨μ1, e2, hf⟩ := nm_some hf
  have fq1 := (frr_ms (by have := bd_12 t0; omega) e2)
  obtain ⟨r4, μ3, e5, hf⟩ := bn_some hf
  have fq2 := fq1.trans (frr_X12_within e5)
  rcases Decidable.em (nrm r4 = 0) with c6 | c6
  · have hf := ite_t c6 hf
    cases hf; exact fq2
  · have hf := ite_f c6 hf
    obtain ⟨r8, μ7, e9, hf⟩ := bn_some hf
    have fq3 := fq2.trans (frr_X12_noTray t0 e9)
    rcases Decidable.em (nrm r8 = 0) with c10 | c10
    · have hf := ite_t c10 hf
      obtain ⟨r12, μ11, e13, hf⟩ := bn_some hf
      have fq4 := fq3.trans (frr_X12_stores t0 e13)
      obtain ⟨r15, μ14, e16, hf⟩ := bn_some hf
      have fq5 := fq4.trans (frr_X12_tells t0 e16)
      obtain ⟨v17, e18, hf⟩ := nm_some hf
      obtain ⟨r20, μ19, e21, hf⟩ := bn_some hf
      have fq6 := fq5.trans (frr_X12_depthSum t0 e21)
      obtain ⟨r23, μ22, e24, hf⟩ := bn_some hf
      have fq7 := fq6.trans (frr_X12_isAgain t0 e24)
      rcases Decidable.em (nrm x2 = 0) with c25 | c25
      · have hf := ite_t c25 hf
        rcases Decidable.em (nrm (μ22 x0 19) = 0) with c28 | c28
        · have hf := ite_t c28 hf
          cases hf; exact fq7
        · have hf := ite_f c28 hf
          cases hf; exact fq7
      · have hf := ite_f c25 hf
        rcases Decidable.em (nrm x2 = nrm 1) with c26 | c26
        · have hf := ite_t c26 hf
          cases hf; exact fq7
        · have hf := ite_f c26 hf
          rcases Decidable.em (nrm x2 = nrm 2) with c27 | c27
          · have hf := ite_t c27 hf
            cases hf; exact fq7
          · have hf := ite_f c27 hf
            cases hf; exact fq7
    · have hf := ite_f c10 hf
      cases hf; exact fq3
theorem frr_X12_perform {x0 x1 : Int} {μ μ' : Mem} {r : Int} (t0 : isK x0 12) (hf : f_X12_perform x0 x1 μ = some (r, μ')) : FrR μ μ' := by
  unfold f_X12_perform at hf
  obtain ⟨μ1, e2, hf⟩ := nm_some hf
  have fq1 := (frr_ms (by have := bd_12 t0; omega) e2)
  obtain ⟨r4, μ3, e5, hf⟩ := bn_some hf
  have fq2 := fq1.trans (frr_X12_noTray t0 e5)
  rcases Decidable.em (nrm r4 = 0) with c6 | c6
  · have hf := ite_t c6 hf
    obtain ⟨r8, μ7, e9, hf⟩ := bn_some hf
    have fq3 := fq2.trans (frr_X12_stores t0 e9)
    obtain ⟨r11, μ10, e12, hf⟩ := bn_some hf
    have fq4 := fq3.trans (frr_X12_tells t0 e12)
    rcases Decidable.em (nrm r11 ≤ 0) with c13 | c13
    · have hf := ite_t c13 hf
      cases hf; exact fq4
    · have hf := ite_f c13 hf
      obtain ⟨r15, μ14, e16, hf⟩ := bn_some hf
      have fq5 := fq4.trans (frr_X12_notes t0 e16)
      cases hf; exact fq5
  · have hf := ite_f c6 hf
    cases hf; exact fq2
theorem frr_X12_draw {x0 x1 : Int} {μ μ' : Mem} {r : Int} (t0 : isK x0 12) (hf : f_X12_draw x0 x1 μ = some (r, μ')) : FrR μ μ' := by
  unfold f_X12_draw at hf
  obtain ⟨μ1, e2, hf⟩ := nm_some hf
  have fq1 := (frr_ms (by have := bd_12 t0; omega) e2)
  obtain ⟨g3, hf⟩ := gd_some hf
  cases hf; exact fq1
theorem frr_X12_drawn {x0 : Int} {μ μ' : Mem} {r : Int} (t0 : isK x0 12) (hf : f_X12_drawn x0 μ = some (r, μ')) : FrR μ μ' := by
  unfold f_X12_drawn at hf
  obtain ⟨r2, μ1, e3, hf⟩ := bn_some hf
  have fq1 := (frr_X12_draw t0 e3)
  rcases Decidable.em (nrm 3 ≤ nrm r2) with c4 | c4
  · have hf := ite_t c4 hf
    rcases Decidable.em (nrm 5 ≤ nrm r2) with c5 | c5
    · have hf := ite_t c5 hf
      rcases Decidable.em (nrm r2 = nrm 5) with c6 | c6
      · have hf := ite_t c6 hf
        obtain ⟨r12, μ11, e13, hf⟩ := bn_some hf
        have fq3 := fq1.trans (frr_X12_draw t0 e13)
        cases hf; exact fq3
      · have hf := ite_f c6 hf
        rcases Decidable.em (nrm r2 = nrm 6) with c7 | c7
        · have hf := ite_t c7 hf
          obtain ⟨r9, μ8, e10, hf⟩ := bn_some hf
          have fq2 := fq1.trans (frr_X12_draw t0 e10)
          cases hf; exact fq2
        · have hf := ite_f c7 hf
          cases hf; exact fq1
    · have hf := ite_f c5 hf
      obtain ⟨r15, μ14, e16, hf⟩ := bn_some hf
      have fq4 := fq1.trans (frr_X12_draw t0 e16)
      cases hf; exact fq4
  · have hf := ite_f c4 hf
    obtain ⟨r18, μ17, e19, hf⟩ := bn_some hf
    have fq5 := fq1.trans (frr_X12_draw t0 e19)
    cases hf; exact fq5
theorem frr_w_X12_year_68 (k34 : Int → Int → Int → Int → Mem → Option (Int × Mem)) (h34 : ∀ (x0 x2 x3 x4 : Int) (μ μ' : Mem) (r : Int), isK x0 12 → k34 x0 x2 x3 x4 μ = some (r, μ') → FrR μ μ') {x0 x2 x3 x4 : Int} {μ μ' : Mem} {r : Int} (t0 : isK x0 12) (hf : f_X12_year_j68 k34 x0 x2 x3 x4 μ = some (r, μ')) : FrR μ μ' := by
  unfold f_X12_year_j68 at hf
  exact h34 _ _ _ _ _ _ _ t0 hf
theorem frr_w_X12_year_34 : ∀ (n : Nat) (x0 x2 x3 x4 : Int) (μ μ' : Mem) (r : Int), isK x0 12 → f_X12_year_w34 n x0 x2 x3 x4 μ = some (r, μ') → FrR μ μ' := by
  intro n
  induction n with
  | zero => intro x0 x2 x3 x4 μ μ' r t0 hf; cases hf
  | succ n ih =>
    intro x0 x2 x3 x4 μ μ' r t0 hf
    rw [f_X12_year_w34.eq_2] at hf
    rcases Decidable.em (nrm x2 ≤ nrm x4) with c1 | c1
    · have hf := ite_t c1 hf
      rcases Decidable.em (nrm x3 ≤ 0) with c2 | c2
      · have hf := ite_t c2 hf
        cases hf; exact frr_rf
      · have hf := ite_f c2 hf
        obtain ⟨r4, μ3, e5, hf⟩ := bn_some hf
        have fq1 := (frr_X12_notes t0 e5)
        cases hf; exact fq1
    · have hf := ite_f c1 hf
      obtain ⟨r7, μ6, e8, hf⟩ := bn_some hf
      have fq2 := (frr_X12_drawn t0 e8)
      obtain ⟨r10, μ9, e11, hf⟩ := bn_some hf
      have fq3 := fq2.trans (frr_X12_whyNot t0 e11)
      rcases Decidable.em (nrm r10 = 0) with c12 | c12
      · have hf := ite_t c12 hf
        obtain ⟨r14, μ13, e15, hf⟩ := bn_some hf
        have fq4 := fq3.trans (frr_X12_does t0 e15)
        exact fq4.trans (frr_w_X12_year_68 _ ih t0 hf)
      · have hf := ite_f c12 hf
        exact fq3.trans (frr_w_X12_year_68 _ ih t0 hf)
theorem frr_X12_year {x0 x1 x2 : Int} {μ μ' : Mem} {r : Int} (t0 : isK x0 12) (hf : f_X12_year x0 x1 x2 μ = some (r, μ')) : FrR μ μ' := by
  unfold f_X12_year at hf
  obtain ⟨μ1, e2, hf⟩ := nm_some hf
  have fq5 := (frr_ms (by have := bd_12 t0; omega) e2)
  obtain ⟨r4, μ3, e5, hf⟩ := bn_some hf
  have fq6 := fq5.trans (frr_X12_within e5)
  rcases Decidable.em (nrm r4 = 0) with c6 | c6
  · have hf := ite_t c6 hf
    cases hf; exact fq6
  · have hf := ite_f c6 hf
    obtain ⟨r8, μ7, e9, hf⟩ := bn_some hf
    have fq7 := fq6.trans (frr_X12_stores t0 e9)
    obtain ⟨μ10, e11, hf⟩ := nm_some hf
    have fq8 := fq7.trans (frr_ms (by have := bd_12 t0; omega) e11)
    exact fq8.trans (frr_w_X12_year_34 FU _ _ _ _ _ _ _ t0 hf)
theorem frr_X12_nearer {x0 x1 x2 : Int} {μ μ' : Mem} {r : Int} (t0 : isK x0 12) (hf : f_X12_nearer x0 x1 x2 μ = some (r, μ')) : FrR μ μ' := by
  unfold f_X12_nearer at hf
  obtain ⟨g1, hf⟩ := gd_some hf
  rcases Decidable.em (nrm (μ (x0 + 8) (nrm x1)) = nrm 268435456) with c2 | c2
  · have hf := ite_t c2 hf
    cases hf; exact frr_rf
  · have hf := ite_f c2 hf
    obtain ⟨g3, hf⟩ := gd_some hf
    obtain ⟨g4, hf⟩ := gd_some hf
    rcases Decidable.em (nrm ((μ (x0 + 8) (nrm x1)) + 1) < nrm (μ (x0 + 8) (nrm x2))) with c5 | c5
    · have hf := ite_t c5 hf
      obtain ⟨g6, hf⟩ := gd_some hf
      obtain ⟨g9, hf⟩ := gd_some hf
      obtain ⟨μ7, e8, hf⟩ := nm_some hf
      have fq1 := (frr_ms (by have := bd_12 t0; omega) e8)
      cases hf; exact fq1
    · have hf := ite_f c5 hf
      cases hf; exact frr_rf
theorem frr_w_X12_laysFar_126 (k40 : Int → Int → Int → Mem → Option (Int × Mem)) (h40 : ∀ (x0 x1 x2 : Int) (μ μ' : Mem) (r : Int), isK x0 12 → k40 x0 x1 x2 μ = some (r, μ') → FrR μ μ') (k48 : Int → Int → Int → Int → Mem → Option (Int × Mem)) (h48 : ∀ (x0 x1 x2 x3 : Int) (μ μ' : Mem) (r : Int), isK x0 12 → k48 x0 x1 x2 x3 μ = some (r, μ') → FrR μ μ') {x0 x1 x2 x3 : Int} {μ μ' : Mem} {r : Int} (t0 : isK x0 12) (hf : f_X12_laysFar_j126 k40 k48 x0 x1 x2 x3 μ = some (r, μ')) : FrR μ μ' := by
  unfold f_X12_laysFar_j126 at hf
  exact h48 _ _ _ _ _ _ _ t0 hf
theorem frr_w_X12_laysFar_48 (k40 : Int → Int → Int → Mem → Option (Int × Mem)) (h40 : ∀ (x0 x1 x2 : Int) (μ μ' : Mem) (r : Int), isK x0 12 → k40 x0 x1 x2 μ = some (r, μ') → FrR μ μ') : ∀ (n : Nat) (x0 x1 x2 x3 : Int) (μ μ' : Mem) (r : Int), isK x0 12 → f_X12_laysFar_w48 k40 n x0 x1 x2 x3 μ = some (r, μ') → FrR μ μ' := by
  intro n
  induction n with
  | zero => intro x0 x1 x2 x3 μ μ' r t0 hf; cases hf
  | succ n ih =>
    intro x0 x1 x2 x3 μ μ' r t0 hf
    rw [f_X12_laysFar_w48.eq_2] at hf
    rcases Decidable.em (nrm (μ (x0 + 1) 2) ≤ nrm x3) with c1 | c1
    · have hf := ite_t c1 hf
      exact h40 _ _ _ _ _ _ t0 hf
    · have hf := ite_f c1 hf
      obtain ⟨r3, μ2, e4, hf⟩ := bn_some hf
      have fq1 := (frr_X12_isIn e4)
      rcases Decidable.em (nrm r3 = 0) with c5 | c5
      · have hf := ite_t c5 hf
        exact fq1.trans (frr_w_X12_laysFar_126 _ h40 _ ih t0 hf)
      · have hf := ite_f c5 hf
        obtain ⟨r7, μ6, e8, hf⟩ := bn_some hf
        have fq2 := fq1.trans (frr_X12_isOpen t0 e8)
        rcases Decidable.em (nrm r7 = 0) with c9 | c9
        · have hf := ite_t c9 hf
          exact fq2.trans (frr_w_X12_laysFar_126 _ h40 _ ih t0 hf)
        · have hf := ite_f c9 hf
          obtain ⟨g10, hf⟩ := gd_some hf
          obtain ⟨g11, hf⟩ := gd_some hf
          obtain ⟨r13, μ12, e14, hf⟩ := bn_some hf
          have fq3 := fq2.trans (frr_X12_nearer t0 e14)
          obtain ⟨g15, hf⟩ := gd_some hf
          obtain ⟨g16, hf⟩ := gd_some hf
          obtain ⟨r18, μ17, e19, hf⟩ := bn_some hf
          have fq4 := fq3.trans (frr_X12_nearer t0 e19)
          obtain ⟨v20, e21, hf⟩ := nm_some hf
          exact fq4.trans (frr_w_X12_laysFar_126 _ h40 _ ih t0 hf)
theorem frr_w_X12_laysFar_40 : ∀ (n : Nat) (x0 x1 x2 : Int) (μ μ' : Mem) (r : Int), isK x0 12 → f_X12_laysFar_w40 n x0 x1 x2 μ = some (r, μ') → FrR μ μ' := by
  intro n
  induction n with
  | zero => intro x0 x1 x2 μ μ' r t0 hf; cases hf
  | succ n ih =>
    intro x0 x1 x2 μ μ' r t0 hf
    rw [f_X12_laysFar_w40.eq_2] at hf
    rcases Decidable.em (nrm x2 = 0) with c1 | c1
    · have hf := ite_t c1 hf
      cases hf; exact frr_rf
    · have hf := ite_f c1 hf
      exact frr_w_X12_laysFar_48 _ ih FU _ _ _ _ _ _ _ t0 hf
theorem frr_w_X12_laysFar_31 (k2 : Int → Int → Int → Mem → Option (Int × Mem)) (h2 : ∀ (x0 x1 x2 : Int) (μ μ' : Mem) (r : Int), isK x0 12 → k2 x0 x1 x2 μ = some (r, μ') → FrR μ μ') {x0 x1 x2 s0 s1 s2 : Int} {μ μ' : Mem} {r : Int} (hb_s0 : s0 ≥ 111) (t0 : isK x0 12) (hf : f_X12_laysFar_j31 k2 x0 x1 x2 s0 s1 s2 μ = some (r, μ')) : FrR μ μ' := by
  unfold f_X12_laysFar_j31 at hf
  obtain ⟨g3, hf⟩ := gd_some hf
  obtain ⟨μ1, e2, hf⟩ := nm_some hf
  have fq5 := (frr_ms (by omega) e2)
  exact fq5.trans (h2 _ _ _ _ _ _ t0 hf)
theorem frr_w_X12_laysFar_2 : ∀ (n : Nat) (x0 x1 x2 : Int) (μ μ' : Mem) (r : Int), isK x0 12 → f_X12_laysFar_w2 n x0 x1 x2 μ = some (r, μ') → FrR μ μ' := by
  intro n
  induction n with
  | zero => intro x0 x1 x2 μ μ' r t0 hf; cases hf
  | succ n ih =>
    intro x0 x1 x2 μ μ' r t0 hf
    rw [f_X12_laysFar_w2.eq_2] at hf
    rcases Decidable.em (nrm 7 ≤ nrm x2) with c1 | c1
    · have hf := ite_t c1 hf
      exact frr_w_X12_laysFar_40 FU _ _ _ _ _ _ t0 hf
    · have hf := ite_f c1 hf
      rcases Decidable.em (nrm x2 = nrm (μ (x0 + 1) 55)) with c2 | c2
      · have hf := ite_t c2 hf
        exact frr_w_X12_laysFar_31 _ ih (by have := bd_12 t0; omega) t0 hf
      · have hf := ite_f c2 hf
        exact frr_w_X12_laysFar_31 _ ih (by have := bd_12 t0; omega) t0 hf
theorem frr_X12_laysFar {x0 x1 : Int} {μ μ' : Mem} {r : Int} (t0 : isK x0 12) (hf : f_X12_laysFar x0 x1 μ = some (r, μ')) : FrR μ μ' := by
  unfold f_X12_laysFar at hf
  exact frr_w_X12_laysFar_2 FU _ _ _ _ _ _ t0 hf
theorem frr_X12_everyLane {x0 : Int} {μ μ' : Mem} {r : Int} (t0 : isK x0 12) (hf : f_X12_everyLane x0 μ = some (r, μ')) : FrR μ μ' := by
  unfold f_X12_everyLane at hf
  cases hf; exact frr_rf
theorem frr_w_X12_reach_47 (k17 : Int → Int → Int → Mem → Option (Int × Mem)) (h17 : ∀ (x0 x1 x2 : Int) (μ μ' : Mem) (r : Int), isK x0 12 → k17 x0 x1 x2 μ = some (r, μ') → FrR μ μ') {x0 x2 s0 s1 : Int} {μ μ' : Mem} {r : Int} (t0 : isK x0 12) (hf : f_X12_reach_j47 k17 x0 x2 s0 s1 μ = some (r, μ')) : FrR μ μ' := by
  unfold f_X12_reach_j47 at hf
  obtain ⟨v1, e2, hf⟩ := nm_some hf
  exact h17 _ _ _ _ _ _ t0 hf
theorem frr_w_X12_reach_17 : ∀ (n : Nat) (x0 x1 x2 : Int) (μ μ' : Mem) (r : Int), isK x0 12 → f_X12_reach_w17 n x0 x1 x2 μ = some (r, μ') → FrR μ μ' := by
  intro n
  induction n with
  | zero => intro x0 x1 x2 μ μ' r t0 hf; cases hf
  | succ n ih =>
    intro x0 x1 x2 μ μ' r t0 hf
    rw [f_X12_reach_w17.eq_2] at hf
    rcases Decidable.em (nrm (μ (x0 + 1) 1) ≤ nrm x2) with c1 | c1
    · have hf := ite_t c1 hf
      cases hf; exact frr_rf
    · have hf := ite_f c1 hf
      obtain ⟨g2, hf⟩ := gd_some hf
      rcases Decidable.em (nrm 268435456 ≤ nrm (μ (x0 + 8) (nrm x2))) with c3 | c3
      · have hf := ite_t c3 hf
        exact frr_w_X12_reach_47 _ ih t0 hf
      · have hf := ite_f c3 hf
        exact frr_w_X12_reach_47 _ ih t0 hf
theorem frr_X12_reach {x0 : Int} {μ μ' : Mem} {r : Int} (t0 : isK x0 12) (hf : f_X12_reach x0 μ = some (r, μ')) : FrR μ μ' := by
  unfold f_X12_reach at hf
  obtain ⟨μ1, e2, hf⟩ := nm_some hf
  have fq1 := (frr_ms (by have := bd_12 t0; omega) e2)
  obtain ⟨r4, μ3, e5, hf⟩ := bn_some hf
  have fq2 := fq1.trans (frr_X12_everyLane t0 e5)
  obtain ⟨r7, μ6, e8, hf⟩ := bn_some hf
  have fq3 := fq2.trans (frr_X12_laysFar t0 e8)
  exact fq3.trans (frr_w_X12_reach_17 FU _ _ _ _ _ _ t0 hf)
theorem frr_X12_toldFar {x0 : Int} {μ μ' : Mem} {r : Int} (hf : f_X12_toldFar x0 μ = some (r, μ')) : FrR μ μ' := by
  unfold f_X12_toldFar at hf
  rcases Decidable.em (nrm x0 < nrm 268435456) with c1 | c1
  · have hf := ite_t c1 hf
    cases hf; exact frr_rf
  · have hf := ite_f c1 hf
    cases hf; exact frr_rf
theorem frr_X12_soonest {x0 x1 : Int} {μ μ' : Mem} {r : Int} (t0 : isK x0 12) (hf : f_X12_soonest x0 x1 μ = some (r, μ')) : FrR μ μ' := by
  unfold f_X12_soonest at hf
  obtain ⟨μ1, e2, hf⟩ := nm_some hf
  have fq1 := (frr_ms (by have := bd_12 t0; omega) e2)
  obtain ⟨r4, μ3, e5, hf⟩ := bn_some hf
  have fq2 := fq1.trans (frr_X12_isPlace t0 e5)
  rcases Decidable.em (nrm r4 = 0) with c6 | c6
  · have hf := ite_t c6 hf
    cases hf; exact fq2
  · have hf := ite_f c6 hf
    obtain ⟨r8, μ7, e9, hf⟩ := bn_some hf
    have fq3 := fq2.trans (frr_X12_everyLane t0 e9)
    obtain ⟨r11, μ10, e12, hf⟩ := bn_some hf
    have fq4 := fq3.trans (frr_X12_laysFar t0 e12)
    obtain ⟨g13, hf⟩ := gd_some hf
    obtain ⟨r15, μ14, e16, hf⟩ := bn_some hf
    have fq5 := fq4.trans (frr_X12_toldFar e16)
    cases hf; exact fq5
theorem frr_w_X12_rowsFrom_125 (rec : Nat → Int → Int → Int → Int → Mem → Option (Int × Mem)) (h_0 : ∀ (x0 x1 x2 x3 : Int) (μ μ' : Mem) (r : Int), isK x0 12 → rec 0 x0 x1 x2 x3 μ = some (r, μ') → FrR μ μ') (k21 : Int → Int → Int → Int → Int → Int → Mem → Option (Int × Mem)) (h21 : ∀ (x0 x1 x2 x3 x4 x5 : Int) (μ μ' : Mem) (r : Int), isK x0 12 → k21 x0 x1 x2 x3 x4 x5 μ = some (r, μ') → FrR μ μ') {x0 x1 x2 x3 x4 x5 : Int} {μ μ' : Mem} {r : Int} (t0 : isK x0 12) (hf : f_X12_rowsFrom_j125 rec k21 x0 x1 x2 x3 x4 x5 μ = some (r, μ')) : FrR μ μ' := by
  unfold f_X12_rowsFrom_j125 at hf
  exact h21 _ _ _ _ _ _ _ _ _ t0 hf
theorem frr_w_X12_rowsFrom_21 (rec : Nat → Int → Int → Int → Int → Mem → Option (Int × Mem)) (h_0 : ∀ (x0 x1 x2 x3 : Int) (μ μ' : Mem) (r : Int), isK x0 12 → rec 0 x0 x1 x2 x3 μ = some (r, μ') → FrR μ μ') : ∀ (n : Nat) (x0 x1 x2 x3 x4 x5 : Int) (μ μ' : Mem) (r : Int), isK x0 12 → f_X12_rowsFrom_w21 rec n x0 x1 x2 x3 x4 x5 μ = some (r, μ') → FrR μ μ' := by
  intro n
  induction n with
  | zero => intro x0 x1 x2 x3 x4 x5 μ μ' r t0 hf; cases hf
  | succ n ih =>
    intro x0 x1 x2 x3 x4 x5 μ μ' r t0 hf
    rw [f_X12_rowsFrom_w21.eq_2] at hf
    rcases Decidable.em (nrm (μ (x0 + 1) 2) ≤ nrm x5) with c1 | c1
    · have hf := ite_t c1 hf
      cases hf; exact frr_rf
    · have hf := ite_f c1 hf
      obtain ⟨r3, μ2, e4, hf⟩ := bn_some hf
      have fq1 := (frr_X12_otherEnd t0 e4)
      obtain ⟨g5, hf⟩ := gd_some hf
      obtain ⟨v6, e7, hf⟩ := nm_some hf
      rcases Decidable.em (nrm r3 = nrm (-1)) with c8 | c8
      · have hf := ite_t c8 hf
        exact fq1.trans (frr_w_X12_rowsFrom_125 _ h_0 _ ih t0 hf)
      · have hf := ite_f c8 hf
        obtain ⟨r10, μ9, e11, hf⟩ := bn_some hf
        have fq2 := fq1.trans (frr_X12_mayGo t0 e11)
        rcases Decidable.em (nrm r10 = 0) with c12 | c12
        · have hf := ite_t c12 hf
          exact fq2.trans (frr_w_X12_rowsFrom_125 _ h_0 _ ih t0 hf)
        · have hf := ite_f c12 hf
          obtain ⟨r14, μ13, e15, hf⟩ := bn_some hf
          have fq3 := fq2.trans (frr_X12_wornTo t0 e15)
          obtain ⟨g18, hf⟩ := gd_some hf
          obtain ⟨μ16, e17, hf⟩ := nm_some hf
          have fq4 := fq3.trans (frr_ms (by have := bd_12 t0; omega) e17)
          obtain ⟨r20, μ19, e21, hf⟩ := bn_some hf
          have fq5 := fq4.trans (h_0 _ _ _ _ _ _ _ t0 e21)
          obtain ⟨v22, e23, hf⟩ := nm_some hf
          obtain ⟨g26, hf⟩ := gd_some hf
          obtain ⟨μ24, e25, hf⟩ := nm_some hf
          have fq6 := fq5.trans (frr_ms (by have := bd_12 t0; omega) e25)
          exact fq6.trans (frr_w_X12_rowsFrom_125 _ h_0 _ ih t0 hf)
theorem frr_w_X12_rowsFrom_0 (rec : Nat → Int → Int → Int → Int → Mem → Option (Int × Mem)) (h_0 : ∀ (x0 x1 x2 x3 : Int) (μ μ' : Mem) (r : Int), isK x0 12 → rec 0 x0 x1 x2 x3 μ = some (r, μ') → FrR μ μ') {x0 x1 x2 x3 : Int} {μ μ' : Mem} {r : Int} (t0 : isK x0 12) (hf : b_X12_rowsFrom rec x0 x1 x2 x3 μ = some (r, μ')) : FrR μ μ' := by
  unfold b_X12_rowsFrom at hf
  rcases Decidable.em (nrm x3 = 0) with c1 | c1
  · have hf := ite_t c1 hf
    rcases Decidable.em (nrm x1 = nrm x2) with c2 | c2
    · have hf := ite_t c2 hf
      cases hf; exact frr_rf
    · have hf := ite_f c2 hf
      cases hf; exact frr_rf
  · have hf := ite_f c1 hf
    exact frr_w_X12_rowsFrom_21 _ h_0 FU _ _ _ _ _ _ _ _ _ t0 hf
theorem frrg_X12_rowsFrom : ∀ n0 : Nat, (∀ (x0 x1 x2 x3 : Int) (μ μ' : Mem) (r : Int), isK x0 12 → g_X12_rowsFrom n0 0 x0 x1 x2 x3 μ = some (r, μ') → FrR μ μ') := by
  intro n0
  induction n0 with
  | zero => exact fun _ _ _ _ _ _ _ _ hf => (by cases hf)
  | succ n0 ih =>
    have h_0 := ih
    · intro x0 x1 x2 x3 μ μ' r t0 hf
      rw [g_X12_rowsFrom.eq_2] at hf
      have hf := ite_t rfl hf
      exact frr_w_X12_rowsFrom_0 _ h_0 t0 hf
theorem frr_X12_rowsFrom {x0 x1 x2 x3 : Int} {μ μ' : Mem} {r : Int} (t0 : isK x0 12) (hf : f_X12_rowsFrom x0 x1 x2 x3 μ = some (r, μ')) : FrR μ μ' := ((frrg_X12_rowsFrom 64)) _ _ _ _ _ _ _ t0 hf
theorem frr_X12_rows {x0 x1 x2 : Int} {μ μ' : Mem} {r : Int} (t0 : isK x0 12) (hf : f_X12_rows x0 x1 x2 μ = some (r, μ')) : FrR μ μ' := by
  unfold f_X12_rows at hf
  obtain ⟨μ1, e2, hf⟩ := nm_some hf
  have fq1 := (frr_ms (by have := bd_12 t0; omega) e2)
  obtain ⟨r4, μ3, e5, hf⟩ := bn_some hf
  have fq2 := fq1.trans (frr_X12_isPlace t0 e5)
  rcases Decidable.em (nrm r4 = 0) with c6 | c6
  · have hf := ite_t c6 hf
    cases hf; exact fq2
  · have hf := ite_f c6 hf
    obtain ⟨r8, μ7, e9, hf⟩ := bn_some hf
    have fq3 := fq2.trans (frr_X12_within e9)
    rcases Decidable.em (nrm r8 = 0) with c10 | c10
    · have hf := ite_t c10 hf
      cases hf; exact fq3
    · have hf := ite_f c10 hf
      obtain ⟨r12, μ11, e13, hf⟩ := bn_some hf
      have fq4 := fq3.trans (frr_X12_rowsFrom t0 e13)
      cases hf; exact fq4
theorem frr_w_X12_finds_138 (rec : Nat → Int → Int → Int → Int → Int → Mem → Option (Int × Mem)) (h_0 : ∀ (x0 x1 x2 x3 x4 : Int) (μ μ' : Mem) (r : Int), isK x0 12 → rec 0 x0 x1 x2 x3 x4 μ = some (r, μ') → FrR μ μ') (k20 : Int → Int → Int → Int → Int → Int → Mem → Option (Int × Mem)) (h20 : ∀ (x0 x1 x2 x3 x4 x5 : Int) (μ μ' : Mem) (r : Int), isK x0 12 → k20 x0 x1 x2 x3 x4 x5 μ = some (r, μ') → FrR μ μ') {x0 x1 x2 x3 x4 x5 : Int} {μ μ' : Mem} {r : Int} (t0 : isK x0 12) (hf : f_X12_finds_j138 rec k20 x0 x1 x2 x3 x4 x5 μ = some (r, μ')) : FrR μ μ' := by
  unfold f_X12_finds_j138 at hf
  exact h20 _ _ _ _ _ _ _ _ _ t0 hf
theorem frr_w_X12_finds_20 (rec : Nat → Int → Int → Int → Int → Int → Mem → Option (Int × Mem)) (h_0 : ∀ (x0 x1 x2 x3 x4 : Int) (μ μ' : Mem) (r : Int), isK x0 12 → rec 0 x0 x1 x2 x3 x4 μ = some (r, μ') → FrR μ μ') : ∀ (n : Nat) (x0 x1 x2 x3 x4 x5 : Int) (μ μ' : Mem) (r : Int), isK x0 12 → f_X12_finds_w20 rec n x0 x1 x2 x3 x4 x5 μ = some (r, μ') → FrR μ μ' := by
  intro n
  induction n with
  | zero => intro x0 x1 x2 x3 x4 x5 μ μ' r t0 hf; cases hf
  | succ n ih =>
    intro x0 x1 x2 x3 x4 x5 μ μ' r t0 hf
    rw [f_X12_finds_w20.eq_2] at hf
    rcases Decidable.em (nrm (μ (x0 + 1) 2) ≤ nrm x5) with c1 | c1
    · have hf := ite_t c1 hf
      cases hf; exact frr_rf
    · have hf := ite_f c1 hf
      obtain ⟨r3, μ2, e4, hf⟩ := bn_some hf
      have fq1 := (frr_X12_otherEnd t0 e4)
      obtain ⟨g5, hf⟩ := gd_some hf
      obtain ⟨v6, e7, hf⟩ := nm_some hf
      rcases Decidable.em (nrm r3 = nrm (-1)) with c8 | c8
      · have hf := ite_t c8 hf
        exact fq1.trans (frr_w_X12_finds_138 _ h_0 _ ih t0 hf)
      · have hf := ite_f c8 hf
        obtain ⟨r10, μ9, e11, hf⟩ := bn_some hf
        have fq2 := fq1.trans (frr_X12_mayGo t0 e11)
        rcases Decidable.em (nrm r10 = 0) with c12 | c12
        · have hf := ite_t c12 hf
          exact fq2.trans (frr_w_X12_finds_138 _ h_0 _ ih t0 hf)
        · have hf := ite_f c12 hf
          obtain ⟨g15, hf⟩ := gd_some hf
          obtain ⟨μ13, e14, hf⟩ := nm_some hf
          have fq3 := fq2.trans (frr_ms (by have := bd_12 t0; omega) e14)
          obtain ⟨r17, μ16, e18, hf⟩ := bn_some hf
          have fq4 := fq3.trans (frr_X12_wornTo t0 e18)
          obtain ⟨g21, hf⟩ := gd_some hf
          obtain ⟨μ19, e20, hf⟩ := nm_some hf
          have fq5 := fq4.trans (frr_ms (by have := bd_12 t0; omega) e20)
          obtain ⟨r23, μ22, e24, hf⟩ := bn_some hf
          have fq6 := fq5.trans (h_0 _ _ _ _ _ _ _ _ t0 e24)
          obtain ⟨g27, hf⟩ := gd_some hf
          obtain ⟨μ25, e26, hf⟩ := nm_some hf
          have fq7 := fq6.trans (frr_ms (by have := bd_12 t0; omega) e26)
          rcases Decidable.em (nrm r23 = 0) with c28 | c28
          · have hf := ite_t c28 hf
            exact fq7.trans (frr_w_X12_finds_138 _ h_0 _ ih t0 hf)
          · have hf := ite_f c28 hf
            cases hf; exact fq7
theorem frr_w_X12_finds_0 (rec : Nat → Int → Int → Int → Int → Int → Mem → Option (Int × Mem)) (h_0 : ∀ (x0 x1 x2 x3 x4 : Int) (μ μ' : Mem) (r : Int), isK x0 12 → rec 0 x0 x1 x2 x3 x4 μ = some (r, μ') → FrR μ μ') {x0 x1 x2 x3 x4 : Int} {μ μ' : Mem} {r : Int} (t0 : isK x0 12) (hf : b_X12_finds rec x0 x1 x2 x3 x4 μ = some (r, μ')) : FrR μ μ' := by
  unfold b_X12_finds at hf
  rcases Decidable.em (nrm x3 = nrm x4) with c1 | c1
  · have hf := ite_t c1 hf
    rcases Decidable.em (nrm x1 = nrm x2) with c2 | c2
    · have hf := ite_t c2 hf
      cases hf; exact frr_rf
    · have hf := ite_f c2 hf
      cases hf; exact frr_rf
  · have hf := ite_f c1 hf
    exact frr_w_X12_finds_20 _ h_0 FU _ _ _ _ _ _ _ _ _ t0 hf
theorem frrg_X12_finds : ∀ n0 : Nat, (∀ (x0 x1 x2 x3 x4 : Int) (μ μ' : Mem) (r : Int), isK x0 12 → g_X12_finds n0 0 x0 x1 x2 x3 x4 μ = some (r, μ') → FrR μ μ') := by
  intro n0
  induction n0 with
  | zero => exact fun _ _ _ _ _ _ _ _ _ hf => (by cases hf)
  | succ n0 ih =>
    have h_0 := ih
    · intro x0 x1 x2 x3 x4 μ μ' r t0 hf
      rw [g_X12_finds.eq_2] at hf
      have hf := ite_t rfl hf
      exact frr_w_X12_finds_0 _ h_0 t0 hf
theorem frr_X12_finds {x0 x1 x2 x3 x4 : Int} {μ μ' : Mem} {r : Int} (t0 : isK x0 12) (hf : f_X12_finds x0 x1 x2 x3 x4 μ = some (r, μ')) : FrR μ μ' := ((frrg_X12_finds 64)) _ _ _ _ _ _ _ _ t0 hf
theorem frr_w_X12_way_38 : ∀ (n : Nat) (x0 x1 x2 x3 : Int) (μ μ' : Mem) (r : Int), isK x0 12 → f_X12_way_w38 n x0 x1 x2 x3 μ = some (r, μ') → FrR μ μ' := by
  intro n
  induction n with
  | zero => intro x0 x1 x2 x3 μ μ' r t0 hf; cases hf
  | succ n ih =>
    intro x0 x1 x2 x3 μ μ' r t0 hf
    rw [f_X12_way_w38.eq_2] at hf
    rcases Decidable.em (nrm 6 < nrm x3) with c1 | c1
    · have hf := ite_t c1 hf
      cases hf; exact frr_rf
    · have hf := ite_f c1 hf
      obtain ⟨r3, μ2, e4, hf⟩ := bn_some hf
      have fq1 := (frr_X12_finds t0 e4)
      rcases Decidable.em (nrm r3 = 0) with c5 | c5
      · have hf := ite_t c5 hf
        exact fq1.trans (ih _ _ _ _ _ _ _ t0 hf)
      · have hf := ite_f c5 hf
        rcases Decidable.em (nrm x3 ≤ nrm x2) with c6 | c6
        · have hf := ite_t c6 hf
          cases hf; exact fq1
        · have hf := ite_f c6 hf
          obtain ⟨g7, hf⟩ := gd_some hf
          cases hf; exact fq1
theorem frr_X12_way {x0 x1 x2 : Int} {μ μ' : Mem} {r : Int} (t0 : isK x0 12) (hf : f_X12_way x0 x1 x2 μ = some (r, μ')) : FrR μ μ' := by
  unfold f_X12_way at hf
  obtain ⟨μ1, e2, hf⟩ := nm_some hf
  have fq2 := (frr_ms (by have := bd_12 t0; omega) e2)
  obtain ⟨r4, μ3, e5, hf⟩ := bn_some hf
  have fq3 := fq2.trans (frr_X12_isPlace t0 e5)
  rcases Decidable.em (nrm r4 = 0) with c6 | c6
  · have hf := ite_t c6 hf
    cases hf; exact fq3
  · have hf := ite_f c6 hf
    rcases Decidable.em (0 ≤ nrm x2) with c7 | c7
    · have hf := ite_t c7 hf
      rcases Decidable.em (nrm x1 = nrm (μ3 (x0 + 1) 55)) with c8 | c8
      · have hf := ite_t c8 hf
        cases hf; exact fq3
      · have hf := ite_f c8 hf
        exact fq3.trans (frr_w_X12_way_38 FU _ _ _ _ _ _ _ t0 hf)
    · have hf := ite_f c7 hf
      cases hf; exact fq3
theorem frr_w_X12_toAndFro_29 : ∀ (n : Nat) (x0 x1 x2 x3 : Int) (μ μ' : Mem) (r : Int), isK x0 12 → f_X12_toAndFro_w29 n x0 x1 x2 x3 μ = some (r, μ') → FrR μ μ' := by
  intro n
  induction n with
  | zero => intro x0 x1 x2 x3 μ μ' r t0 hf; cases hf
  | succ n ih =>
    intro x0 x1 x2 x3 μ μ' r t0 hf
    rw [f_X12_toAndFro_w29.eq_2] at hf
    rcases Decidable.em (nrm 100 ≤ nrm x3) with c1 | c1
    · have hf := ite_t c1 hf
      cases hf; exact frr_rf
    · have hf := ite_f c1 hf
      obtain ⟨r3, μ2, e4, hf⟩ := bn_some hf
      have fq1 := (frr_X12_mayGo t0 e4)
      rcases Decidable.em (nrm r3 = 0) with c5 | c5
      · have hf := ite_t c5 hf
        cases hf; exact fq1
      · have hf := ite_f c5 hf
        obtain ⟨r7, μ6, e8, hf⟩ := bn_some hf
        have fq2 := fq1.trans (frr_X12_wornTo t0 e8)
        exact fq2.trans (ih _ _ _ _ _ _ _ t0 hf)
theorem frr_X12_toAndFro {x0 x1 : Int} {μ μ' : Mem} {r : Int} (t0 : isK x0 12) (hf : f_X12_toAndFro x0 x1 μ = some (r, μ')) : FrR μ μ' := by
  unfold f_X12_toAndFro at hf
  obtain ⟨μ1, e2, hf⟩ := nm_some hf
  have fq3 := (frr_ms (by have := bd_12 t0; omega) e2)
  obtain ⟨r4, μ3, e5, hf⟩ := bn_some hf
  have fq4 := fq3.trans (frr_X12_isLane t0 e5)
  rcases Decidable.em (nrm r4 = 0) with c6 | c6
  · have hf := ite_t c6 hf
    cases hf; exact fq4
  · have hf := ite_f c6 hf
    obtain ⟨g7, hf⟩ := gd_some hf
    obtain ⟨v8, e9, hf⟩ := nm_some hf
    exact fq4.trans (frr_w_X12_toAndFro_29 FU _ _ _ _ _ _ _ t0 hf)
theorem frr_X12_costOf {x0 x1 : Int} {μ μ' : Mem} {r : Int} (t0 : isK x0 12) (hf : f_X12_costOf x0 x1 μ = some (r, μ')) : FrR μ μ' := by
  unfold f_X12_costOf at hf
  obtain ⟨r2, μ1, e3, hf⟩ := bn_some hf
  have fq1 := (frr_X12_fillingsOf t0 e3)
  rcases Decidable.em (nrm r2 = nrm (-1)) with c4 | c4
  · have hf := ite_t c4 hf
    cases hf; exact fq1
  · have hf := ite_f c4 hf
    cases hf; exact fq1
theorem frr_X12_costBy {x0 x1 x2 : Int} {μ μ' : Mem} {r : Int} (t0 : isK x0 12) (hf : f_X12_costBy x0 x1 x2 μ = some (r, μ')) : FrR μ μ' := by
  unfold f_X12_costBy at hf
  obtain ⟨r2, μ1, e3, hf⟩ := bn_some hf
  have fq1 := (frr_X12_otherEnd t0 e3)
  rcases Decidable.em (nrm r2 = nrm (-1)) with c4 | c4
  · have hf := ite_t c4 hf
    cases hf; exact fq1
  · have hf := ite_f c4 hf
    obtain ⟨r6, μ5, e7, hf⟩ := bn_some hf
    have fq2 := fq1.trans (frr_X12_costOf t0 e7)
    rcases Decidable.em (nrm r6 = nrm 268435456) with c8 | c8
    · have hf := ite_t c8 hf
      cases hf; exact fq2
    · have hf := ite_f c8 hf
      obtain ⟨g9, hf⟩ := gd_some hf
      rcases Decidable.em (nrm (μ5 (x0 + 10) (nrm r2)) = nrm 268435456) with c10 | c10
      · have hf := ite_t c10 hf
        cases hf; exact fq2
      · have hf := ite_f c10 hf
        obtain ⟨r12, μ11, e13, hf⟩ := bn_some hf
        have fq3 := fq2.trans (frr_X12_costOf t0 e13)
        obtain ⟨g14, hf⟩ := gd_some hf
        cases hf; exact fq3
theorem frr_w_X12_laysCost_100 (k34 : Int → Int → Mem → Option (Int × Mem)) (h34 : ∀ (x0 x2 : Int) (μ μ' : Mem) (r : Int), isK x0 12 → k34 x0 x2 μ = some (r, μ') → FrR μ μ') (k42 : Int → Int → Int → Mem → Option (Int × Mem)) (h42 : ∀ (x0 x2 x3 : Int) (μ μ' : Mem) (r : Int), isK x0 12 → k42 x0 x2 x3 μ = some (r, μ') → FrR μ μ') (k55 : Int → Int → Int → Int → Mem → Option (Int × Mem)) (h55 : ∀ (x0 x2 x3 x4 : Int) (μ μ' : Mem) (r : Int), isK x0 12 → k55 x0 x2 x3 x4 μ = some (r, μ') → FrR μ μ') {x0 x2 x3 x4 : Int} {μ μ' : Mem} {r : Int} (t0 : isK x0 12) (hf : f_X12_laysCost_j100 k34 k42 k55 x0 x2 x3 x4 μ = some (r, μ')) : FrR μ μ' := by
  unfold f_X12_laysCost_j100 at hf
  exact h55 _ _ _ _ _ _ _ t0 hf
theorem frr_w_X12_laysCost_55 (k34 : Int → Int → Mem → Option (Int × Mem)) (h34 : ∀ (x0 x2 : Int) (μ μ' : Mem) (r : Int), isK x0 12 → k34 x0 x2 μ = some (r, μ') → FrR μ μ') (k42 : Int → Int → Int → Mem → Option (Int × Mem)) (h42 : ∀ (x0 x2 x3 : Int) (μ μ' : Mem) (r : Int), isK x0 12 → k42 x0 x2 x3 μ = some (r, μ') → FrR μ μ') : ∀ (n : Nat) (x0 x2 x3 x4 : Int) (μ μ' : Mem) (r : Int), isK x0 12 → f_X12_laysCost_w55 k34 k42 n x0 x2 x3 x4 μ = some (r, μ') → FrR μ μ' := by
  intro n
  induction n with
  | zero => intro x0 x2 x3 x4 μ μ' r t0 hf; cases hf
  | succ n ih =>
    intro x0 x2 x3 x4 μ μ' r t0 hf
    rw [f_X12_laysCost_w55.eq_2] at hf
    rcases Decidable.em (nrm (μ (x0 + 1) 2) ≤ nrm x4) with c1 | c1
    · have hf := ite_t c1 hf
      exact h42 _ _ _ _ _ _ t0 hf
    · have hf := ite_f c1 hf
      obtain ⟨r3, μ2, e4, hf⟩ := bn_some hf
      have fq1 := (frr_X12_costBy t0 e4)
      obtain ⟨g5, hf⟩ := gd_some hf
      rcases Decidable.em (nrm r3 < nrm (μ2 (x0 + 10) (nrm x3))) with c6 | c6
      · have hf := ite_t c6 hf
        obtain ⟨r8, μ7, e9, hf⟩ := bn_some hf
        have fq2 := fq1.trans (frr_X12_costBy t0 e9)
        obtain ⟨g12, hf⟩ := gd_some hf
        obtain ⟨μ10, e11, hf⟩ := nm_some hf
        have fq3 := fq2.trans (frr_ms (by have := bd_12 t0; omega) e11)
        exact fq3.trans (frr_w_X12_laysCost_100 _ h34 _ h42 _ ih t0 hf)
      · have hf := ite_f c6 hf
        exact fq1.trans (frr_w_X12_laysCost_100 _ h34 _ h42 _ ih t0 hf)
theorem frr_w_X12_laysCost_42 (k34 : Int → Int → Mem → Option (Int × Mem)) (h34 : ∀ (x0 x2 : Int) (μ μ' : Mem) (r : Int), isK x0 12 → k34 x0 x2 μ = some (r, μ') → FrR μ μ') : ∀ (n : Nat) (x0 x2 x3 : Int) (μ μ' : Mem) (r : Int), isK x0 12 → f_X12_laysCost_w42 k34 n x0 x2 x3 μ = some (r, μ') → FrR μ μ' := by
  intro n
  induction n with
  | zero => intro x0 x2 x3 μ μ' r t0 hf; cases hf
  | succ n ih =>
    intro x0 x2 x3 μ μ' r t0 hf
    rw [f_X12_laysCost_w42.eq_2] at hf
    rcases Decidable.em (nrm (μ (x0 + 1) 1) ≤ nrm x3) with c1 | c1
    · have hf := ite_t c1 hf
      exact h34 _ _ _ _ _ t0 hf
    · have hf := ite_f c1 hf
      exact frr_w_X12_laysCost_55 _ h34 _ ih FU _ _ _ _ _ _ _ t0 hf
theorem frr_w_X12_laysCost_34 : ∀ (n : Nat) (x0 x2 : Int) (μ μ' : Mem) (r : Int), isK x0 12 → f_X12_laysCost_w34 n x0 x2 μ = some (r, μ') → FrR μ μ' := by
  intro n
  induction n with
  | zero => intro x0 x2 μ μ' r t0 hf; cases hf
  | succ n ih =>
    intro x0 x2 μ μ' r t0 hf
    rw [f_X12_laysCost_w34.eq_2] at hf
    rcases Decidable.em (nrm x2 = 0) with c1 | c1
    · have hf := ite_t c1 hf
      obtain ⟨g2, hf⟩ := gd_some hf
      cases hf; exact frr_rf
    · have hf := ite_f c1 hf
      exact frr_w_X12_laysCost_42 _ ih FU _ _ _ _ _ _ t0 hf
theorem frr_w_X12_laysCost_25 (k2 : Int → Int → Int → Mem → Option (Int × Mem)) (h2 : ∀ (x0 x1 x2 : Int) (μ μ' : Mem) (r : Int), isK x0 12 → k2 x0 x1 x2 μ = some (r, μ') → FrR μ μ') {x0 x1 x2 s0 s1 s2 : Int} {μ μ' : Mem} {r : Int} (hb_s0 : s0 ≥ 111) (t0 : isK x0 12) (hf : f_X12_laysCost_j25 k2 x0 x1 x2 s0 s1 s2 μ = some (r, μ')) : FrR μ μ' := by
  unfold f_X12_laysCost_j25 at hf
  obtain ⟨g3, hf⟩ := gd_some hf
  obtain ⟨μ1, e2, hf⟩ := nm_some hf
  have fq4 := (frr_ms (by omega) e2)
  exact fq4.trans (h2 _ _ _ _ _ _ t0 hf)
theorem frr_w_X12_laysCost_2 : ∀ (n : Nat) (x0 x1 x2 : Int) (μ μ' : Mem) (r : Int), isK x0 12 → f_X12_laysCost_w2 n x0 x1 x2 μ = some (r, μ') → FrR μ μ' := by
  intro n
  induction n with
  | zero => intro x0 x1 x2 μ μ' r t0 hf; cases hf
  | succ n ih =>
    intro x0 x1 x2 μ μ' r t0 hf
    rw [f_X12_laysCost_w2.eq_2] at hf
    rcases Decidable.em (nrm 7 ≤ nrm x2) with c1 | c1
    · have hf := ite_t c1 hf
      exact frr_w_X12_laysCost_34 FU _ _ _ _ _ t0 hf
    · have hf := ite_f c1 hf
      rcases Decidable.em (nrm x2 = nrm x1) with c2 | c2
      · have hf := ite_t c2 hf
        exact frr_w_X12_laysCost_25 _ ih (by have := bd_12 t0; omega) t0 hf
      · have hf := ite_f c2 hf
        exact frr_w_X12_laysCost_25 _ ih (by have := bd_12 t0; omega) t0 hf
theorem frr_X12_laysCost {x0 x1 : Int} {μ μ' : Mem} {r : Int} (t0 : isK x0 12) (hf : f_X12_laysCost x0 x1 μ = some (r, μ')) : FrR μ μ' := by
  unfold f_X12_laysCost at hf
  exact frr_w_X12_laysCost_2 FU _ _ _ _ _ _ t0 hf
theorem frr_w_X12_laneAt_34 (k10 : Int → Int → Int → Int → Mem → Option (Int × Mem)) (h10 : ∀ (x0 x1 x2 x3 : Int) (μ μ' : Mem) (r : Int), isK x0 12 → k10 x0 x1 x2 x3 μ = some (r, μ') → FrR μ μ') : ∀ (n : Nat) (x0 x1 x2 x3 x4 : Int) (μ μ' : Mem) (r : Int), isK x0 12 → f_X12_laneAt_w34 k10 n x0 x1 x2 x3 x4 μ = some (r, μ') → FrR μ μ' := by
  intro n
  induction n with
  | zero => intro x0 x1 x2 x3 x4 μ μ' r t0 hf; cases hf
  | succ n ih =>
    intro x0 x1 x2 x3 x4 μ μ' r t0 hf
    rw [f_X12_laneAt_w34.eq_2] at hf
    obtain ⟨r2, μ1, e3, hf⟩ := bn_some hf
    have fq1 := (frr_X12_costBy t0 e3)
    obtain ⟨g4, hf⟩ := gd_some hf
    rcases Decidable.em (nrm r2 = nrm (μ1 (x0 + 10) (nrm x2))) with c5 | c5
    · have hf := ite_t c5 hf
      rcases Decidable.em (nrm x3 = nrm x1) with c6 | c6
      · have hf := ite_t c6 hf
        cases hf; exact fq1
      · have hf := ite_f c6 hf
        obtain ⟨r8, μ7, e9, hf⟩ := bn_some hf
        have fq2 := fq1.trans (frr_X12_otherEnd t0 e9)
        exact fq2.trans (h10 _ _ _ _ _ _ _ t0 hf)
    · have hf := ite_f c5 hf
      exact fq1.trans (ih _ _ _ _ _ _ _ _ t0 hf)
theorem frr_w_X12_laneAt_10 : ∀ (n : Nat) (x0 x1 x2 x3 : Int) (μ μ' : Mem) (r : Int), isK x0 12 → f_X12_laneAt_w10 n x0 x1 x2 x3 μ = some (r, μ') → FrR μ μ' := by
  intro n
  induction n with
  | zero => intro x0 x1 x2 x3 μ μ' r t0 hf; cases hf
  | succ n ih =>
    intro x0 x1 x2 x3 μ μ' r t0 hf
    rw [f_X12_laneAt_w10.eq_2] at hf
    obtain ⟨g1, hf⟩ := gd_some hf
    rcases Decidable.em (nrm (μ (x0 + 10) (nrm x2)) ≤ 0) with c2 | c2
    · have hf := ite_t c2 hf
      cases hf; exact frr_rf
    · have hf := ite_f c2 hf
      obtain ⟨g3, hf⟩ := gd_some hf
      rcases Decidable.em (nrm 268435456 ≤ nrm (μ (x0 + 10) (nrm x2))) with c4 | c4
      · have hf := ite_t c4 hf
        cases hf; exact frr_rf
      · have hf := ite_f c4 hf
        exact frr_w_X12_laneAt_34 _ ih FU _ _ _ _ _ _ _ _ t0 hf
theorem frr_X12_laneAt {x0 x1 : Int} {μ μ' : Mem} {r : Int} (t0 : isK x0 12) (hf : f_X12_laneAt x0 x1 μ = some (r, μ')) : FrR μ μ' := by
  unfold f_X12_laneAt at hf
  obtain ⟨v1, e2, hf⟩ := nm_some hf
  exact frr_w_X12_laneAt_10 FU _ _ _ _ _ _ _ t0 hf
theorem frr_X12_cheapest {x0 x1 x2 : Int} {μ μ' : Mem} {r : Int} (t0 : isK x0 12) (hf : f_X12_cheapest x0 x1 x2 μ = some (r, μ')) : FrR μ μ' := by
  unfold f_X12_cheapest at hf
  obtain ⟨μ1, e2, hf⟩ := nm_some hf
  have fq1 := (frr_ms (by have := bd_12 t0; omega) e2)
  obtain ⟨r4, μ3, e5, hf⟩ := bn_some hf
  have fq2 := fq1.trans (frr_X12_isPlace t0 e5)
  rcases Decidable.em (nrm r4 = 0) with c6 | c6
  · have hf := ite_t c6 hf
    cases hf; exact fq2
  · have hf := ite_f c6 hf
    obtain ⟨r8, μ7, e9, hf⟩ := bn_some hf
    have fq3 := fq2.trans (frr_X12_within e9)
    rcases Decidable.em (nrm r8 = 0) with c10 | c10
    · have hf := ite_t c10 hf
      cases hf; exact fq3
    · have hf := ite_f c10 hf
      obtain ⟨r12, μ11, e13, hf⟩ := bn_some hf
      have fq4 := fq3.trans (frr_X12_laysCost t0 e13)
      rcases Decidable.em (nrm r12 = nrm 268435456) with c14 | c14
      · have hf := ite_t c14 hf
        cases hf; exact fq4
      · have hf := ite_f c14 hf
        rcases Decidable.em (nrm x2 = 0) with c15 | c15
        · have hf := ite_t c15 hf
          cases hf; exact fq4
        · have hf := ite_f c15 hf
          cases hf; exact fq4
theorem frr_X12_cheapBy {x0 x1 x2 : Int} {μ μ' : Mem} {r : Int} (t0 : isK x0 12) (hf : f_X12_cheapBy x0 x1 x2 μ = some (r, μ')) : FrR μ μ' := by
  unfold f_X12_cheapBy at hf
  obtain ⟨μ1, e2, hf⟩ := nm_some hf
  have fq1 := (frr_ms (by have := bd_12 t0; omega) e2)
  obtain ⟨r4, μ3, e5, hf⟩ := bn_some hf
  have fq2 := fq1.trans (frr_X12_isPlace t0 e5)
  rcases Decidable.em (nrm r4 = 0) with c6 | c6
  · have hf := ite_t c6 hf
    cases hf; exact fq2
  · have hf := ite_f c6 hf
    rcases Decidable.em (0 ≤ nrm x2) with c7 | c7
    · have hf := ite_t c7 hf
      obtain ⟨r9, μ8, e10, hf⟩ := bn_some hf
      have fq3 := fq2.trans (frr_X12_laysCost t0 e10)
      obtain ⟨r12, μ11, e13, hf⟩ := bn_some hf
      have fq4 := fq3.trans (frr_X12_laneAt t0 e13)
      cases hf; exact fq4
    · have hf := ite_f c7 hf
      cases hf; exact fq2
theorem frr_w_X12_areJoined_94 (k4 : Int → Int → Int → Int → Mem → Option (Int × Mem)) (h4 : ∀ (x0 x1 x2 x3 : Int) (μ μ' : Mem) (r : Int), isK x0 12 → k4 x0 x1 x2 x3 μ = some (r, μ') → FrR μ μ') {x0 x1 x2 s0 : Int} {μ μ' : Mem} {r : Int} (t0 : isK x0 12) (hf : f_X12_areJoined_j94 k4 x0 x1 x2 s0 μ = some (r, μ')) : FrR μ μ' := by
  unfold f_X12_areJoined_j94 at hf
  exact h4 _ _ _ _ _ _ _ t0 hf
theorem frr_w_X12_areJoined_77 (k4 : Int → Int → Int → Int → Mem → Option (Int × Mem)) (h4 : ∀ (x0 x1 x2 x3 : Int) (μ μ' : Mem) (r : Int), isK x0 12 → k4 x0 x1 x2 x3 μ = some (r, μ') → FrR μ μ') (k14 : Int → Int → Int → Int → Int → Mem → Option (Int × Mem)) (h14 : ∀ (x0 x1 x2 x4 x5 : Int) (μ μ' : Mem) (r : Int), isK x0 12 → k14 x0 x1 x2 x4 x5 μ = some (r, μ') → FrR μ μ') {x0 x1 x2 x4 x5 : Int} {μ μ' : Mem} {r : Int} (t0 : isK x0 12) (hf : f_X12_areJoined_j77 k4 k14 x0 x1 x2 x4 x5 μ = some (r, μ')) : FrR μ μ' := by
  unfold f_X12_areJoined_j77 at hf
  exact h14 _ _ _ _ _ _ _ _ t0 hf
theorem frr_w_X12_areJoined_14 (k4 : Int → Int → Int → Int → Mem → Option (Int × Mem)) (h4 : ∀ (x0 x1 x2 x3 : Int) (μ μ' : Mem) (r : Int), isK x0 12 → k4 x0 x1 x2 x3 μ = some (r, μ') → FrR μ μ') : ∀ (n : Nat) (x0 x1 x2 x4 x5 : Int) (μ μ' : Mem) (r : Int), isK x0 12 → f_X12_areJoined_w14 k4 n x0 x1 x2 x4 x5 μ = some (r, μ') → FrR μ μ' := by
  intro n
  induction n with
  | zero => intro x0 x1 x2 x4 x5 μ μ' r t0 hf; cases hf
  | succ n ih =>
    intro x0 x1 x2 x4 x5 μ μ' r t0 hf
    rw [f_X12_areJoined_w14.eq_2] at hf
    rcases Decidable.em (nrm (μ (x0 + 1) 2) ≤ nrm x5) with c1 | c1
    · have hf := ite_t c1 hf
      rcases Decidable.em (nrm x2 = nrm x4) with c2 | c2
      · have hf := ite_t c2 hf
        exact frr_w_X12_areJoined_94 _ h4 t0 hf
      · have hf := ite_f c2 hf
        exact frr_w_X12_areJoined_94 _ h4 t0 hf
    · have hf := ite_f c1 hf
      obtain ⟨r4, μ3, e5, hf⟩ := bn_some hf
      have fq1 := (frr_X12_isIn e5)
      rcases Decidable.em (nrm r4 = 0) with c6 | c6
      · have hf := ite_t c6 hf
        exact fq1.trans (frr_w_X12_areJoined_77 _ h4 _ ih t0 hf)
      · have hf := ite_f c6 hf
        obtain ⟨g7, hf⟩ := gd_some hf
        obtain ⟨g8, hf⟩ := gd_some hf
        obtain ⟨v9, e10, hf⟩ := nm_some hf
        rcases Decidable.em (nrm (jand x2 v9) = 0) with c11 | c11
        · have hf := ite_t c11 hf
          exact fq1.trans (frr_w_X12_areJoined_77 _ h4 _ ih t0 hf)
        · have hf := ite_f c11 hf
          obtain ⟨v12, e13, hf⟩ := nm_some hf
          exact fq1.trans (frr_w_X12_areJoined_77 _ h4 _ ih t0 hf)
theorem frr_w_X12_areJoined_4 : ∀ (n : Nat) (x0 x1 x2 x3 : Int) (μ μ' : Mem) (r : Int), isK x0 12 → f_X12_areJoined_w4 n x0 x1 x2 x3 μ = some (r, μ') → FrR μ μ' := by
  intro n
  induction n with
  | zero => intro x0 x1 x2 x3 μ μ' r t0 hf; cases hf
  | succ n ih =>
    intro x0 x1 x2 x3 μ μ' r t0 hf
    rw [f_X12_areJoined_w4.eq_2] at hf
    rcases Decidable.em (nrm x3 = 0) with c1 | c1
    · have hf := ite_t c1 hf
      rcases Decidable.em (nrm x2 = nrm ((jshl 1 (μ (x0 + 1) 1)) - 1)) with c2 | c2
      · have hf := ite_t c2 hf
        cases hf; exact frr_rf
      · have hf := ite_f c2 hf
        cases hf; exact frr_rf
    · have hf := ite_f c1 hf
      exact frr_w_X12_areJoined_14 _ ih FU _ _ _ _ _ _ _ _ t0 hf
theorem frr_X12_areJoined {x0 x1 : Int} {μ μ' : Mem} {r : Int} (t0 : isK x0 12) (hf : f_X12_areJoined x0 x1 μ = some (r, μ')) : FrR μ μ' := by
  unfold f_X12_areJoined at hf
  exact frr_w_X12_areJoined_4 FU _ _ _ _ _ _ _ t0 hf
theorem frr_w_X12_joins_135 (k27 : Int → Int → Int → Int → Int → Mem → Option (Int × Mem)) (h27 : ∀ (x0 x1 x2 x3 x4 : Int) (μ μ' : Mem) (r : Int), isK x0 12 → k27 x0 x1 x2 x3 x4 μ = some (r, μ') → FrR μ μ') {x0 x1 x2 x3 x4 : Int} {μ μ' : Mem} {r : Int} (t0 : isK x0 12) (hf : f_X12_joins_j135 k27 x0 x1 x2 x3 x4 μ = some (r, μ')) : FrR μ μ' := by
  unfold f_X12_joins_j135 at hf
  exact h27 _ _ _ _ _ _ _ _ t0 hf
theorem frr_w_X12_joins_105 (k27 : Int → Int → Int → Int → Int → Mem → Option (Int × Mem)) (h27 : ∀ (x0 x1 x2 x3 x4 : Int) (μ μ' : Mem) (r : Int), isK x0 12 → k27 x0 x1 x2 x3 x4 μ = some (r, μ') → FrR μ μ') (k46 : Int → Int → Int → Int → Int → Int → Int → Mem → Option (Int × Mem)) (h46 : ∀ (x0 x1 x2 x3 x4 x5 x6 : Int) (μ μ' : Mem) (r : Int), isK x0 12 → k46 x0 x1 x2 x3 x4 x5 x6 μ = some (r, μ') → FrR μ μ') {x0 x1 x2 x3 x4 x5 x6 : Int} {μ μ' : Mem} {r : Int} (t0 : isK x0 12) (hf : f_X12_joins_j105 k27 k46 x0 x1 x2 x3 x4 x5 x6 μ = some (r, μ')) : FrR μ μ' := by
  unfold f_X12_joins_j105 at hf
  exact h46 _ _ _ _ _ _ _ _ _ _ t0 hf
theorem frr_w_X12_joins_103 (k27 : Int → Int → Int → Int → Int → Mem → Option (Int × Mem)) (h27 : ∀ (x0 x1 x2 x3 x4 : Int) (μ μ' : Mem) (r : Int), isK x0 12 → k27 x0 x1 x2 x3 x4 μ = some (r, μ') → FrR μ μ') (k46 : Int → Int → Int → Int → Int → Int → Int → Mem → Option (Int × Mem)) (h46 : ∀ (x0 x1 x2 x3 x4 x5 x6 : Int) (μ μ' : Mem) (r : Int), isK x0 12 → k46 x0 x1 x2 x3 x4 x5 x6 μ = some (r, μ') → FrR μ μ') {x0 x1 x2 x3 x4 x6 s0 : Int} {μ μ' : Mem} {r : Int} (t0 : isK x0 12) (hf : f_X12_joins_j103 k27 k46 x0 x1 x2 x3 x4 x6 s0 μ = some (r, μ')) : FrR μ μ' := by
  unfold f_X12_joins_j103 at hf
  exact frr_w_X12_joins_105 _ h27 _ h46 t0 hf
theorem frr_w_X12_joins_88 (k27 : Int → Int → Int → Int → Int → Mem → Option (Int × Mem)) (h27 : ∀ (x0 x1 x2 x3 x4 : Int) (μ μ' : Mem) (r : Int), isK x0 12 → k27 x0 x1 x2 x3 x4 μ = some (r, μ') → FrR μ μ') (k46 : Int → Int → Int → Int → Int → Int → Int → Mem → Option (Int × Mem)) (h46 : ∀ (x0 x1 x2 x3 x4 x5 x6 : Int) (μ μ' : Mem) (r : Int), isK x0 12 → k46 x0 x1 x2 x3 x4 x5 x6 μ = some (r, μ') → FrR μ μ') {x0 x1 x2 x3 x4 x6 : Int} {μ μ' : Mem} {r : Int} (t0 : isK x0 12) (hf : f_X12_joins_j88 k27 k46 x0 x1 x2 x3 x4 x6 μ = some (r, μ')) : FrR μ μ' := by
  unfold f_X12_joins_j88 at hf
  exact frr_w_X12_joins_103 _ h27 _ h46 t0 hf
theorem frr_w_X12_joins_46 (k27 : Int → Int → Int → Int → Int → Mem → Option (Int × Mem)) (h27 : ∀ (x0 x1 x2 x3 x4 : Int) (μ μ' : Mem) (r : Int), isK x0 12 → k27 x0 x1 x2 x3 x4 μ = some (r, μ') → FrR μ μ') : ∀ (n : Nat) (x0 x1 x2 x3 x4 x5 x6 : Int) (μ μ' : Mem) (r : Int), isK x0 12 → f_X12_joins_w46 k27 n x0 x1 x2 x3 x4 x5 x6 μ = some (r, μ') → FrR μ μ' := by
  intro n
  induction n with
  | zero => intro x0 x1 x2 x3 x4 x5 x6 μ μ' r t0 hf; cases hf
  | succ n ih =>
    intro x0 x1 x2 x3 x4 x5 x6 μ μ' r t0 hf
    rw [f_X12_joins_w46.eq_2] at hf
    rcases Decidable.em (nrm (μ (x0 + 1) 2) ≤ nrm x6) with c1 | c1
    · have hf := ite_t c1 hf
      rcases Decidable.em (nrm x3 ≤ nrm x5) with c2 | c2
      · have hf := ite_t c2 hf
        exact frr_w_X12_joins_135 _ h27 t0 hf
      · have hf := ite_f c2 hf
        obtain ⟨r4, μ3, e5, hf⟩ := bn_some hf
        have fq1 := (frr_X12_areJoined t0 e5)
        rcases Decidable.em (nrm r4 = 0) with c6 | c6
        · have hf := ite_t c6 hf
          exact fq1.trans (frr_w_X12_joins_135 _ h27 t0 hf)
        · have hf := ite_f c6 hf
          exact fq1.trans (frr_w_X12_joins_135 _ h27 t0 hf)
    · have hf := ite_f c1 hf
      obtain ⟨r8, μ7, e9, hf⟩ := bn_some hf
      have fq2 := (frr_X12_isIn e9)
      rcases Decidable.em (nrm r8 = 0) with c10 | c10
      · have hf := ite_t c10 hf
        exact fq2.trans (frr_w_X12_joins_105 _ h27 _ ih t0 hf)
      · have hf := ite_f c10 hf
        rcases Decidable.em (nrm x5 = nrm 268435456) with c11 | c11
        · have hf := ite_t c11 hf
          exact fq2.trans (frr_w_X12_joins_88 _ h27 _ ih t0 hf)
        · have hf := ite_f c11 hf
          obtain ⟨r13, μ12, e14, hf⟩ := bn_some hf
          have fq3 := fq2.trans (frr_X12_costOf t0 e14)
          rcases Decidable.em (nrm r13 = nrm 268435456) with c15 | c15
          · have hf := ite_t c15 hf
            exact fq3.trans (frr_w_X12_joins_88 _ h27 _ ih t0 hf)
          · have hf := ite_f c15 hf
            obtain ⟨r17, μ16, e18, hf⟩ := bn_some hf
            have fq4 := fq3.trans (frr_X12_costOf t0 e18)
            exact fq4.trans (frr_w_X12_joins_103 _ h27 _ ih t0 hf)
theorem frr_w_X12_joins_27 : ∀ (n : Nat) (x0 x1 x2 x3 x4 : Int) (μ μ' : Mem) (r : Int), isK x0 12 → f_X12_joins_w27 n x0 x1 x2 x3 x4 μ = some (r, μ') → FrR μ μ' := by
  intro n
  induction n with
  | zero => intro x0 x1 x2 x3 x4 μ μ' r t0 hf; cases hf
  | succ n ih =>
    intro x0 x1 x2 x3 x4 μ μ' r t0 hf
    rw [f_X12_joins_w27.eq_2] at hf
    rcases Decidable.em (nrm (jshl 1 (μ (x0 + 1) 2)) ≤ nrm x4) with c1 | c1
    · have hf := ite_t c1 hf
      rcases Decidable.em (nrm x2 = nrm (-1)) with c2 | c2
      · have hf := ite_t c2 hf
        cases hf; exact frr_rf
      · have hf := ite_f c2 hf
        rcases Decidable.em (nrm x1 = nrm 1) with c3 | c3
        · have hf := ite_t c3 hf
          cases hf; exact frr_rf
        · have hf := ite_f c3 hf
          cases hf; exact frr_rf
    · have hf := ite_f c1 hf
      exact frr_w_X12_joins_46 _ ih FU _ _ _ _ _ _ _ _ _ _ t0 hf
theorem frr_X12_joins {x0 x1 : Int} {μ μ' : Mem} {r : Int} (t0 : isK x0 12) (hf : f_X12_joins x0 x1 μ = some (r, μ')) : FrR μ μ' := by
  unfold f_X12_joins at hf
  obtain ⟨μ1, e2, hf⟩ := nm_some hf
  have fq5 := (frr_ms (by have := bd_12 t0; omega) e2)
  obtain ⟨r4, μ3, e5, hf⟩ := bn_some hf
  have fq6 := fq5.trans (frr_X12_within e5)
  rcases Decidable.em (nrm r4 = 0) with c6 | c6
  · have hf := ite_t c6 hf
    cases hf; exact fq6
  · have hf := ite_f c6 hf
    exact fq6.trans (frr_w_X12_joins_27 FU _ _ _ _ _ _ _ _ t0 hf)
theorem frr_w_X12_shuts_92 (k31 : Int → Int → Int → Int → Int → Mem → Option (Int × Mem)) (h31 : ∀ (x0 x1 x2 x3 x4 : Int) (μ μ' : Mem) (r : Int), isK x0 12 → k31 x0 x1 x2 x3 x4 μ = some (r, μ') → FrR μ μ') {x0 x1 x2 x3 x4 : Int} {μ μ' : Mem} {r : Int} (t0 : isK x0 12) (hf : f_X12_shuts_j92 k31 x0 x1 x2 x3 x4 μ = some (r, μ')) : FrR μ μ' := by
  unfold f_X12_shuts_j92 at hf
  exact h31 _ _ _ _ _ _ _ _ t0 hf
theorem frr_w_X12_shuts_64 (k31 : Int → Int → Int → Int → Int → Mem → Option (Int × Mem)) (h31 : ∀ (x0 x1 x2 x3 x4 : Int) (μ μ' : Mem) (r : Int), isK x0 12 → k31 x0 x1 x2 x3 x4 μ = some (r, μ') → FrR μ μ') {x0 x1 x2 x3 x4 : Int} {μ μ' : Mem} {r : Int} (t0 : isK x0 12) (hf : f_X12_shuts_j64 k31 x0 x1 x2 x3 x4 μ = some (r, μ')) : FrR μ μ' := by
  unfold f_X12_shuts_j64 at hf
  obtain ⟨r2, μ1, e3, hf⟩ := bn_some hf
  have fq1 := (frr_X12_everyLane t0 e3)
  obtain ⟨r5, μ4, e6, hf⟩ := bn_some hf
  have fq2 := fq1.trans (frr_X12_laysFar t0 e6)
  obtain ⟨g7, hf⟩ := gd_some hf
  rcases Decidable.em (nrm (μ4 (x0 + 8) (nrm x1)) = nrm 268435456) with c8 | c8
  · have hf := ite_t c8 hf
    exact fq2.trans (frr_w_X12_shuts_92 _ h31 t0 hf)
  · have hf := ite_f c8 hf
    exact fq2.trans (frr_w_X12_shuts_92 _ h31 t0 hf)
theorem frr_w_X12_shuts_31 : ∀ (n : Nat) (x0 x1 x2 x3 x4 : Int) (μ μ' : Mem) (r : Int), isK x0 12 → f_X12_shuts_w31 n x0 x1 x2 x3 x4 μ = some (r, μ') → FrR μ μ' := by
  intro n
  induction n with
  | zero => intro x0 x1 x2 x3 x4 μ μ' r t0 hf; cases hf
  | succ n ih =>
    intro x0 x1 x2 x3 x4 μ μ' r t0 hf
    rw [f_X12_shuts_w31.eq_2] at hf
    rcases Decidable.em (nrm (jshl 1 (μ (x0 + 1) 2)) ≤ nrm x4) with c1 | c1
    · have hf := ite_t c1 hf
      rcases Decidable.em (nrm x3 = nrm (-1)) with c2 | c2
      · have hf := ite_t c2 hf
        cases hf; exact frr_rf
      · have hf := ite_f c2 hf
        rcases Decidable.em (nrm x2 = nrm 1) with c3 | c3
        · have hf := ite_t c3 hf
          cases hf; exact frr_rf
        · have hf := ite_f c3 hf
          obtain ⟨r5, μ4, e6, hf⟩ := bn_some hf
          have fq3 := (frr_X12_bitsOf e6)
          cases hf; exact fq3
    · have hf := ite_f c1 hf
      rcases Decidable.em (nrm x3 = nrm (-1)) with c7 | c7
      · have hf := ite_t c7 hf
        exact frr_w_X12_shuts_64 _ ih t0 hf
      · have hf := ite_f c7 hf
        obtain ⟨r9, μ8, e10, hf⟩ := bn_some hf
        have fq4 := (frr_X12_bitsOf e10)
        obtain ⟨r12, μ11, e13, hf⟩ := bn_some hf
        have fq5 := fq4.trans (frr_X12_bitsOf e13)
        rcases Decidable.em (nrm r9 < nrm r12) with c14 | c14
        · have hf := ite_t c14 hf
          exact fq5.trans (frr_w_X12_shuts_64 _ ih t0 hf)
        · have hf := ite_f c14 hf
          exact fq5.trans (frr_w_X12_shuts_92 _ ih t0 hf)
theorem frr_X12_shuts {x0 x1 x2 : Int} {μ μ' : Mem} {r : Int} (t0 : isK x0 12) (hf : f_X12_shuts x0 x1 x2 μ = some (r, μ')) : FrR μ μ' := by
  unfold f_X12_shuts at hf
  obtain ⟨μ1, e2, hf⟩ := nm_some hf
  have fq6 := (frr_ms (by have := bd_12 t0; omega) e2)
  obtain ⟨r4, μ3, e5, hf⟩ := bn_some hf
  have fq7 := fq6.trans (frr_X12_isPlace t0 e5)
  rcases Decidable.em (nrm r4 = 0) with c6 | c6
  · have hf := ite_t c6 hf
    cases hf; exact fq7
  · have hf := ite_f c6 hf
    obtain ⟨r8, μ7, e9, hf⟩ := bn_some hf
    have fq8 := fq7.trans (frr_X12_within e9)
    rcases Decidable.em (nrm r8 = 0) with c10 | c10
    · have hf := ite_t c10 hf
      cases hf; exact fq8
    · have hf := ite_f c10 hf
      exact fq8.trans (frr_w_X12_shuts_31 FU _ _ _ _ _ _ _ _ t0 hf)
theorem frr_w_X12_turnedTo_7 : ∀ (n : Nat) (x0 x2 : Int) (μ μ' : Mem) (r : Int), isK x0 12 → f_X12_turnedTo_w7 n x0 x2 μ = some (r, μ') → FrR μ μ' := by
  intro n
  induction n with
  | zero => intro x0 x2 μ μ' r t0 hf; cases hf
  | succ n ih =>
    intro x0 x2 μ μ' r t0 hf
    rw [f_X12_turnedTo_w7.eq_2] at hf
    obtain ⟨r2, μ1, e3, hf⟩ := bn_some hf
    have fq1 := (frr_X12_seasonTo t0 e3)
    rcases Decidable.em (nrm r2 = nrm x2) with c4 | c4
    · have hf := ite_t c4 hf
      cases hf; exact fq1
    · have hf := ite_f c4 hf
      obtain ⟨r6, μ5, e7, hf⟩ := bn_some hf
      have fq2 := fq1.trans (frr_X12_seasonTo t0 e7)
      obtain ⟨μ8, e9, hf⟩ := nm_some hf
      have fq3 := fq2.trans (frr_ms (by have := bd_12 t0; omega) e9)
      exact fq3.trans (ih _ _ _ _ _ t0 hf)
theorem frr_X12_turnedTo {x0 x1 : Int} {μ μ' : Mem} {r : Int} (t0 : isK x0 12) (hf : f_X12_turnedTo x0 x1 μ = some (r, μ')) : FrR μ μ' := by
  unfold f_X12_turnedTo at hf
  obtain ⟨μ1, e2, hf⟩ := nm_some hf
  have fq4 := (frr_ms (by have := bd_12 t0; omega) e2)
  exact fq4.trans (frr_w_X12_turnedTo_7 FU _ _ _ _ _ t0 hf)
theorem frr_X12_turning {x0 x1 : Int} {μ μ' : Mem} {r : Int} (t0 : isK x0 12) (hf : f_X12_turning x0 x1 μ = some (r, μ')) : FrR μ μ' := by
  unfold f_X12_turning at hf
  obtain ⟨μ1, e2, hf⟩ := nm_some hf
  have fq1 := (frr_ms (by have := bd_12 t0; omega) e2)
  obtain ⟨r4, μ3, e5, hf⟩ := bn_some hf
  have fq2 := fq1.trans (frr_X12_within e5)
  rcases Decidable.em (nrm r4 = 0) with c6 | c6
  · have hf := ite_t c6 hf
    cases hf; exact fq2
  · have hf := ite_f c6 hf
    obtain ⟨r8, μ7, e9, hf⟩ := bn_some hf
    have fq3 := fq2.trans (frr_X12_turnedTo t0 e9)
    rcases Decidable.em (nrm x1 = 0) with c10 | c10
    · have hf := ite_t c10 hf
      cases hf; exact fq3
    · have hf := ite_f c10 hf
      cases hf; exact fq3
theorem frr_w_X12_when_38 : ∀ (n : Nat) (x0 x1 x2 x3 : Int) (μ μ' : Mem) (r : Int), isK x0 12 → f_X12_when_w38 n x0 x1 x2 x3 μ = some (r, μ') → FrR μ μ' := by
  intro n
  induction n with
  | zero => intro x0 x1 x2 x3 μ μ' r t0 hf; cases hf
  | succ n ih =>
    intro x0 x1 x2 x3 μ μ' r t0 hf
    rw [f_X12_when_w38.eq_2] at hf
    rcases Decidable.em (nrm 8 < nrm x3) with c1 | c1
    · have hf := ite_t c1 hf
      cases hf; exact frr_rf
    · have hf := ite_f c1 hf
      obtain ⟨r3, μ2, e4, hf⟩ := bn_some hf
      have fq1 := (frr_X12_seasonTo t0 e4)
      obtain ⟨r6, μ5, e7, hf⟩ := bn_some hf
      have fq2 := fq1.trans (frr_X12_isIn e7)
      rcases Decidable.em (nrm r6 = 0) with c8 | c8
      · have hf := ite_t c8 hf
        exact fq2.trans (ih _ _ _ _ _ _ _ t0 hf)
      · have hf := ite_f c8 hf
        cases hf; exact fq2
theorem frr_X12_when {x0 x1 : Int} {μ μ' : Mem} {r : Int} (t0 : isK x0 12) (hf : f_X12_when x0 x1 μ = some (r, μ')) : FrR μ μ' := by
  unfold f_X12_when at hf
  obtain ⟨μ1, e2, hf⟩ := nm_some hf
  have fq3 := (frr_ms (by have := bd_12 t0; omega) e2)
  obtain ⟨r4, μ3, e5, hf⟩ := bn_some hf
  have fq4 := fq3.trans (frr_X12_isPerson t0 e5)
  rcases Decidable.em (nrm r4 = 0) with c6 | c6
  · have hf := ite_t c6 hf
    cases hf; exact fq4
  · have hf := ite_f c6 hf
    obtain ⟨v7, e8, hf⟩ := nm_some hf
    obtain ⟨r10, μ9, e11, hf⟩ := bn_some hf
    have fq5 := fq4.trans (frr_X12_isIn e11)
    rcases Decidable.em (nrm r10 = 0) with c12 | c12
    · have hf := ite_t c12 hf
      exact fq5.trans (frr_w_X12_when_38 FU _ _ _ _ _ _ _ t0 hf)
    · have hf := ite_f c12 hf
      cases hf; exact fq5
theorem frr_w_X12_starts_94 (k34 : Int → Int → Int → Int → Int → Mem → Option (Int × Mem)) (h34 : ∀ (x0 x1 x2 x3 x4 : Int) (μ μ' : Mem) (r : Int), isK x0 12 → k34 x0 x1 x2 x3 x4 μ = some (r, μ') → FrR μ μ') {x0 x1 x2 x3 x4 : Int} {μ μ' : Mem} {r : Int} (t0 : isK x0 12) (hf : f_X12_starts_j94 k34 x0 x1 x2 x3 x4 μ = some (r, μ')) : FrR μ μ' := by
  unfold f_X12_starts_j94 at hf
  exact h34 _ _ _ _ _ _ _ _ t0 hf
theorem frr_w_X12_starts_73 (k34 : Int → Int → Int → Int → Int → Mem → Option (Int × Mem)) (h34 : ∀ (x0 x1 x2 x3 x4 : Int) (μ μ' : Mem) (r : Int), isK x0 12 → k34 x0 x1 x2 x3 x4 μ = some (r, μ') → FrR μ μ') {x0 x1 x2 x3 x4 : Int} {μ μ' : Mem} {r : Int} (t0 : isK x0 12) (hf : f_X12_starts_j73 k34 x0 x1 x2 x3 x4 μ = some (r, μ')) : FrR μ μ' := by
  unfold f_X12_starts_j73 at hf
  obtain ⟨r2, μ1, e3, hf⟩ := bn_some hf
  have fq1 := (frr_X12_turnedTo t0 e3)
  rcases Decidable.em (nrm r2 = nrm x2) with c4 | c4
  · have hf := ite_t c4 hf
    exact fq1.trans (frr_w_X12_starts_94 _ h34 t0 hf)
  · have hf := ite_f c4 hf
    exact fq1.trans (frr_w_X12_starts_94 _ h34 t0 hf)
theorem frr_w_X12_starts_34 : ∀ (n : Nat) (x0 x1 x2 x3 x4 : Int) (μ μ' : Mem) (r : Int), isK x0 12 → f_X12_starts_w34 n x0 x1 x2 x3 x4 μ = some (r, μ') → FrR μ μ' := by
  intro n
  induction n with
  | zero => intro x0 x1 x2 x3 x4 μ μ' r t0 hf; cases hf
  | succ n ih =>
    intro x0 x1 x2 x3 x4 μ μ' r t0 hf
    rw [f_X12_starts_w34.eq_2] at hf
    rcases Decidable.em (nrm x2 < nrm x4) with c1 | c1
    · have hf := ite_t c1 hf
      rcases Decidable.em (nrm x1 = 0) with c2 | c2
      · have hf := ite_t c2 hf
        obtain ⟨r4, μ3, e5, hf⟩ := bn_some hf
        have fq2 := (frr_X12_bitsOf e5)
        cases hf; exact fq2
      · have hf := ite_f c2 hf
        cases hf; exact frr_rf
    · have hf := ite_f c1 hf
      rcases Decidable.em (nrm (jand x4 (μ (x0 + 1) 65)) = 0) with c6 | c6
      · have hf := ite_t c6 hf
        rcases Decidable.em (nrm x3 = nrm (-1)) with c7 | c7
        · have hf := ite_t c7 hf
          exact frr_w_X12_starts_73 _ ih t0 hf
        · have hf := ite_f c7 hf
          obtain ⟨r9, μ8, e10, hf⟩ := bn_some hf
          have fq3 := (frr_X12_bitsOf e10)
          obtain ⟨r12, μ11, e13, hf⟩ := bn_some hf
          have fq4 := fq3.trans (frr_X12_bitsOf e13)
          rcases Decidable.em (nrm r9 < nrm r12) with c14 | c14
          · have hf := ite_t c14 hf
            exact fq4.trans (frr_w_X12_starts_73 _ ih t0 hf)
          · have hf := ite_f c14 hf
            exact fq4.trans (frr_w_X12_starts_94 _ ih t0 hf)
      · have hf := ite_f c6 hf
        exact frr_w_X12_starts_94 _ ih t0 hf
theorem frr_X12_starts {x0 x1 : Int} {μ μ' : Mem} {r : Int} (t0 : isK x0 12) (hf : f_X12_starts x0 x1 μ = some (r, μ')) : FrR μ μ' := by
  unfold f_X12_starts at hf
  obtain ⟨μ1, e2, hf⟩ := nm_some hf
  have fq5 := (frr_ms (by have := bd_12 t0; omega) e2)
  obtain ⟨r4, μ3, e5, hf⟩ := bn_some hf
  have fq6 := fq5.trans (frr_X12_within e5)
  rcases Decidable.em (nrm r4 = 0) with c6 | c6
  · have hf := ite_t c6 hf
    cases hf; exact fq6
  · have hf := ite_f c6 hf
    obtain ⟨v7, e8, hf⟩ := nm_some hf
    exact fq6.trans (frr_w_X12_starts_34 FU _ _ _ _ _ _ _ _ t0 hf)
theorem frr_w_X12_noWorn_34 : ∀ (n : Nat) (x0 x1 x3 : Int) (μ μ' : Mem) (r : Int), isK x0 12 → f_X12_noWorn_w34 n x0 x1 x3 μ = some (r, μ') → FrR μ μ' := by
  intro n
  induction n with
  | zero => intro x0 x1 x3 μ μ' r t0 hf; cases hf
  | succ n ih =>
    intro x0 x1 x3 μ μ' r t0 hf
    rw [f_X12_noWorn_w34.eq_2] at hf
    obtain ⟨g1, hf⟩ := gd_some hf
    rcases Decidable.em (nrm (μ (x0 + 16) (nrm x1)) ≤ nrm x3) with c2 | c2
    · have hf := ite_t c2 hf
      cases hf; exact frr_rf
    · have hf := ite_f c2 hf
      obtain ⟨g3, hf⟩ := gd_some hf
      obtain ⟨v4, e5, hf⟩ := nm_some hf
      rcases Decidable.em (nrm (kcmp v4 0) < 0) with c6 | c6
      · have hf := ite_t c6 hf
        cases hf; exact frr_rf
      · have hf := ite_f c6 hf
        obtain ⟨r8, μ7, e9, hf⟩ := bn_some hf
        have fq1 := (frr_X12_isLane t0 e9)
        rcases Decidable.em (nrm r8 = 0) with c10 | c10
        · have hf := ite_t c10 hf
          cases hf; exact fq1
        · have hf := ite_f c10 hf
          rcases Decidable.em (nrm (kcmp (krem v4 10) 6) ≤ 0) with c11 | c11
          · have hf := ite_t c11 hf
            exact fq1.trans (ih _ _ _ _ _ _ t0 hf)
          · have hf := ite_f c11 hf
            cases hf; exact fq1
theorem frr_X12_noWorn {x0 x1 : Int} {μ μ' : Mem} {r : Int} (t0 : isK x0 12) (hf : f_X12_noWorn x0 x1 μ = some (r, μ')) : FrR μ μ' := by
  unfold f_X12_noWorn at hf
  obtain ⟨r2, μ1, e3, hf⟩ := bn_some hf
  have fq2 := (frr_X12_noTray t0 e3)
  rcases Decidable.em (nrm r2 = 0) with c4 | c4
  · have hf := ite_t c4 hf
    obtain ⟨g5, hf⟩ := gd_some hf
    obtain ⟨r7, μ6, e8, hf⟩ := bn_some hf
    have fq3 := fq2.trans (frr_X12_within e8)
    rcases Decidable.em (nrm r7 = 0) with c9 | c9
    · have hf := ite_t c9 hf
      cases hf; exact fq3
    · have hf := ite_f c9 hf
      exact fq3.trans (frr_w_X12_noWorn_34 FU _ _ _ _ _ _ t0 hf)
  · have hf := ite_f c4 hf
    cases hf; exact fq2
theorem frr_w_X12_rainsOf_102 (k4 : Int → Int → Int → Int → Mem → Option (Int × Mem)) (h4 : ∀ (x0 x1 x2 x3 : Int) (μ μ' : Mem) (r : Int), isK x0 12 → k4 x0 x1 x2 x3 μ = some (r, μ') → FrR μ μ') {x0 x1 x3 s0 s1 : Int} {μ μ' : Mem} {r : Int} (t0 : isK x0 12) (hf : f_X12_rainsOf_j102 k4 x0 x1 x3 s0 s1 μ = some (r, μ')) : FrR μ μ' := by
  unfold f_X12_rainsOf_j102 at hf
  obtain ⟨v1, e2, hf⟩ := nm_some hf
  exact h4 _ _ _ _ _ _ _ t0 hf
theorem frr_w_X12_rainsOf_80 (k4 : Int → Int → Int → Int → Mem → Option (Int × Mem)) (h4 : ∀ (x0 x1 x2 x3 : Int) (μ μ' : Mem) (r : Int), isK x0 12 → k4 x0 x1 x2 x3 μ = some (r, μ') → FrR μ μ') (k16 : Int → Int → Int → Int → Int → Int → Mem → Option (Int × Mem)) (h16 : ∀ (x0 x1 x2 x3 x4 x5 : Int) (μ μ' : Mem) (r : Int), isK x0 12 → k16 x0 x1 x2 x3 x4 x5 μ = some (r, μ') → FrR μ μ') {x0 x1 x2 x3 x5 s0 s1 : Int} {μ μ' : Mem} {r : Int} (t0 : isK x0 12) (hf : f_X12_rainsOf_j80 k4 k16 x0 x1 x2 x3 x5 s0 s1 μ = some (r, μ')) : FrR μ μ' := by
  unfold f_X12_rainsOf_j80 at hf
  obtain ⟨v1, e2, hf⟩ := nm_some hf
  exact h16 _ _ _ _ _ _ _ _ _ t0 hf
theorem frr_w_X12_rainsOf_16 (k4 : Int → Int → Int → Int → Mem → Option (Int × Mem)) (h4 : ∀ (x0 x1 x2 x3 : Int) (μ μ' : Mem) (r : Int), isK x0 12 → k4 x0 x1 x2 x3 μ = some (r, μ') → FrR μ μ') : ∀ (n : Nat) (x0 x1 x2 x3 x4 x5 : Int) (μ μ' : Mem) (r : Int), isK x0 12 → f_X12_rainsOf_w16 k4 n x0 x1 x2 x3 x4 x5 μ = some (r, μ') → FrR μ μ' := by
  intro n
  induction n with
  | zero => intro x0 x1 x2 x3 x4 x5 μ μ' r t0 hf; cases hf
  | succ n ih =>
    intro x0 x1 x2 x3 x4 x5 μ μ' r t0 hf
    rw [f_X12_rainsOf_w16.eq_2] at hf
    obtain ⟨g1, hf⟩ := gd_some hf
    rcases Decidable.em (nrm (μ (x0 + 16) (nrm x1)) ≤ nrm x5) with c2 | c2
    · have hf := ite_t c2 hf
      rcases Decidable.em (nrm x4 = 0) with c3 | c3
      · have hf := ite_t c3 hf
        exact frr_w_X12_rainsOf_102 _ h4 t0 hf
      · have hf := ite_f c3 hf
        exact frr_w_X12_rainsOf_102 _ h4 t0 hf
    · have hf := ite_f c2 hf
      obtain ⟨g4, hf⟩ := gd_some hf
      obtain ⟨v5, e6, hf⟩ := nm_some hf
      obtain ⟨g7, hf⟩ := gd_some hf
      obtain ⟨r9, μ8, e10, hf⟩ := bn_some hf
      have fq1 := (frr_X12_wornTo t0 e10)
      rcases Decidable.em (nrm r9 = nrm (jrem v5 10)) with c11 | c11
      · have hf := ite_t c11 hf
        exact fq1.trans (frr_w_X12_rainsOf_80 _ h4 _ ih t0 hf)
      · have hf := ite_f c11 hf
        exact fq1.trans (frr_w_X12_rainsOf_80 _ h4 _ ih t0 hf)
theorem frr_w_X12_rainsOf_4 : ∀ (n : Nat) (x0 x1 x2 x3 : Int) (μ μ' : Mem) (r : Int), isK x0 12 → f_X12_rainsOf_w4 n x0 x1 x2 x3 μ = some (r, μ') → FrR μ μ' := by
  intro n
  induction n with
  | zero => intro x0 x1 x2 x3 μ μ' r t0 hf; cases hf
  | succ n ih =>
    intro x0 x1 x2 x3 μ μ' r t0 hf
    rw [f_X12_rainsOf_w4.eq_2] at hf
    rcases Decidable.em (nrm 10 ≤ nrm x3) with c1 | c1
    · have hf := ite_t c1 hf
      cases hf; exact frr_rf
    · have hf := ite_f c1 hf
      exact frr_w_X12_rainsOf_16 _ ih FU _ _ _ _ _ _ _ _ _ t0 hf
theorem frr_X12_rainsOf {x0 x1 : Int} {μ μ' : Mem} {r : Int} (t0 : isK x0 12) (hf : f_X12_rainsOf x0 x1 μ = some (r, μ')) : FrR μ μ' := by
  unfold f_X12_rainsOf at hf
  exact frr_w_X12_rainsOf_4 FU _ _ _ _ _ _ _ t0 hf
theorem frr_X12_rains {x0 x1 : Int} {μ μ' : Mem} {r : Int} (t0 : isK x0 12) (hf : f_X12_rains x0 x1 μ = some (r, μ')) : FrR μ μ' := by
  unfold f_X12_rains at hf
  obtain ⟨μ1, e2, hf⟩ := nm_some hf
  have fq1 := (frr_ms (by have := bd_12 t0; omega) e2)
  obtain ⟨r4, μ3, e5, hf⟩ := bn_some hf
  have fq2 := fq1.trans (frr_X12_noWorn t0 e5)
  rcases Decidable.em (nrm r4 = 0) with c6 | c6
  · have hf := ite_t c6 hf
    obtain ⟨r8, μ7, e9, hf⟩ := bn_some hf
    have fq3 := fq2.trans (frr_X12_rainsOf t0 e9)
    cases hf; exact fq3
  · have hf := ite_f c6 hf
    cases hf; exact fq2
theorem frr_w_X12_mostOften_101 (k29 : Int → Int → Int → Int → Int → Mem → Option (Int × Mem)) (h29 : ∀ (x0 x1 x2 x3 x4 : Int) (μ μ' : Mem) (r : Int), isK x0 12 → k29 x0 x1 x2 x3 x4 μ = some (r, μ') → FrR μ μ') {x0 x1 x2 x3 x4 : Int} {μ μ' : Mem} {r : Int} (t0 : isK x0 12) (hf : f_X12_mostOften_j101 k29 x0 x1 x2 x3 x4 μ = some (r, μ')) : FrR μ μ' := by
  unfold f_X12_mostOften_j101 at hf
  exact h29 _ _ _ _ _ _ _ _ t0 hf
theorem frr_w_X12_mostOften_100 (k29 : Int → Int → Int → Int → Int → Mem → Option (Int × Mem)) (h29 : ∀ (x0 x1 x2 x3 x4 : Int) (μ μ' : Mem) (r : Int), isK x0 12 → k29 x0 x1 x2 x3 x4 μ = some (r, μ') → FrR μ μ') {x0 x1 x2 x4 s0 : Int} {μ μ' : Mem} {r : Int} (t0 : isK x0 12) (hf : f_X12_mostOften_j100 k29 x0 x1 x2 x4 s0 μ = some (r, μ')) : FrR μ μ' := by
  unfold f_X12_mostOften_j100 at hf
  exact frr_w_X12_mostOften_101 _ h29 t0 hf
theorem frr_w_X12_mostOften_29 : ∀ (n : Nat) (x0 x1 x2 x3 x4 : Int) (μ μ' : Mem) (r : Int), isK x0 12 → f_X12_mostOften_w29 n x0 x1 x2 x3 x4 μ = some (r, μ') → FrR μ μ' := by
  intro n
  induction n with
  | zero => intro x0 x1 x2 x3 x4 μ μ' r t0 hf; cases hf
  | succ n ih =>
    intro x0 x1 x2 x3 x4 μ μ' r t0 hf
    rw [f_X12_mostOften_w29.eq_2] at hf
    rcases Decidable.em (nrm 10 ≤ nrm x4) with c1 | c1
    · have hf := ite_t c1 hf
      cases hf; exact frr_rf
    · have hf := ite_f c1 hf
      obtain ⟨r3, μ2, e4, hf⟩ := bn_some hf
      have fq1 := (frr_X12_isIn e4)
      rcases Decidable.em (nrm r3 = 0) with c5 | c5
      · have hf := ite_t c5 hf
        exact fq1.trans (frr_w_X12_mostOften_101 _ ih t0 hf)
      · have hf := ite_f c5 hf
        obtain ⟨g6, hf⟩ := gd_some hf
        obtain ⟨r8, μ7, e9, hf⟩ := bn_some hf
        have fq2 := fq1.trans (frr_X12_wornTo t0 e9)
        obtain ⟨g10, hf⟩ := gd_some hf
        obtain ⟨g13, hf⟩ := gd_some hf
        obtain ⟨μ11, e12, hf⟩ := nm_some hf
        have fq3 := fq2.trans (frr_ms (by have := bd_12 t0; omega) e12)
        obtain ⟨g14, hf⟩ := gd_some hf
        rcases Decidable.em (nrm (μ11 (x0 + 11) (nrm r8)) ≤ nrm x3) with c15 | c15
        · have hf := ite_t c15 hf
          exact fq3.trans (frr_w_X12_mostOften_100 _ ih t0 hf)
        · have hf := ite_f c15 hf
          obtain ⟨g16, hf⟩ := gd_some hf
          exact fq3.trans (frr_w_X12_mostOften_100 _ ih t0 hf)
theorem frr_w_X12_mostOften_5 : ∀ (n : Nat) (x0 x1 x2 x3 x4 : Int) (μ μ' : Mem) (r : Int), isK x0 12 → f_X12_mostOften_w5 n x0 x1 x2 x3 x4 μ = some (r, μ') → FrR μ μ' := by
  intro n
  induction n with
  | zero => intro x0 x1 x2 x3 x4 μ μ' r t0 hf; cases hf
  | succ n ih =>
    intro x0 x1 x2 x3 x4 μ μ' r t0 hf
    rw [f_X12_mostOften_w5.eq_2] at hf
    rcases Decidable.em (nrm 6 < nrm x4) with c1 | c1
    · have hf := ite_t c1 hf
      exact frr_w_X12_mostOften_29 FU _ _ _ _ _ _ _ _ t0 hf
    · have hf := ite_f c1 hf
      obtain ⟨g4, hf⟩ := gd_some hf
      obtain ⟨μ2, e3, hf⟩ := nm_some hf
      have fq4 := (frr_ms (by have := bd_12 t0; omega) e3)
      exact fq4.trans (ih _ _ _ _ _ _ _ _ t0 hf)
theorem frr_X12_mostOften {x0 x1 x2 : Int} {μ μ' : Mem} {r : Int} (t0 : isK x0 12) (hf : f_X12_mostOften x0 x1 x2 μ = some (r, μ')) : FrR μ μ' := by
  unfold f_X12_mostOften at hf
  exact frr_w_X12_mostOften_5 FU _ _ _ _ _ _ _ _ t0 hf
theorem frr_w_X12_attempt_76 (k34 : Int → Int → Int → Int → Int → Mem → Option (Int × Mem)) (h34 : ∀ (x0 x3 x4 x5 x6 : Int) (μ μ' : Mem) (r : Int), isK x0 12 → k34 x0 x3 x4 x5 x6 μ = some (r, μ') → FrR μ μ') {x0 x3 x4 x5 x6 : Int} {μ μ' : Mem} {r : Int} (t0 : isK x0 12) (hf : f_X12_attempt_j76 k34 x0 x3 x4 x5 x6 μ = some (r, μ')) : FrR μ μ' := by
  unfold f_X12_attempt_j76 at hf
  exact h34 _ _ _ _ _ _ _ _ t0 hf
theorem frr_w_X12_attempt_34 : ∀ (n : Nat) (x0 x3 x4 x5 x6 : Int) (μ μ' : Mem) (r : Int), isK x0 12 → f_X12_attempt_w34 n x0 x3 x4 x5 x6 μ = some (r, μ') → FrR μ μ' := by
  intro n
  induction n with
  | zero => intro x0 x3 x4 x5 x6 μ μ' r t0 hf; cases hf
  | succ n ih =>
    intro x0 x3 x4 x5 x6 μ μ' r t0 hf
    rw [f_X12_attempt_w34.eq_2] at hf
    rcases Decidable.em (nrm (μ (x0 + 1) 2) ≤ nrm x6) with c1 | c1
    · have hf := ite_t c1 hf
      cases hf; exact frr_rf
    · have hf := ite_f c1 hf
      rcases Decidable.em (nrm x3 = 0) with c2 | c2
      · have hf := ite_t c2 hf
        cases hf; exact frr_rf
      · have hf := ite_f c2 hf
        obtain ⟨r4, μ3, e5, hf⟩ := bn_some hf
        have fq1 := (frr_X12_mostOften t0 e5)
        rcases Decidable.em (nrm r4 < nrm x5) with c6 | c6
        · have hf := ite_t c6 hf
          exact fq1.trans (frr_w_X12_attempt_76 _ ih t0 hf)
        · have hf := ite_f c6 hf
          exact fq1.trans (frr_w_X12_attempt_76 _ ih t0 hf)
theorem frr_X12_attempt {x0 x1 : Int} {μ μ' : Mem} {r : Int} (t0 : isK x0 12) (hf : f_X12_attempt x0 x1 μ = some (r, μ')) : FrR μ μ' := by
  unfold f_X12_attempt at hf
  obtain ⟨μ1, e2, hf⟩ := nm_some hf
  have fq2 := (frr_ms (by have := bd_12 t0; omega) e2)
  obtain ⟨r4, μ3, e5, hf⟩ := bn_some hf
  have fq3 := fq2.trans (frr_X12_noWorn t0 e5)
  rcases Decidable.em (nrm r4 = 0) with c6 | c6
  · have hf := ite_t c6 hf
    obtain ⟨r8, μ7, e9, hf⟩ := bn_some hf
    have fq4 := fq3.trans (frr_X12_rainsOf t0 e9)
    exact fq4.trans (frr_w_X12_attempt_34 FU _ _ _ _ _ _ _ _ t0 hf)
  · have hf := ite_f c6 hf
    cases hf; exact fq3
theorem frr_w_X12_winsAt_62 (rec : Nat → Int → Int → Int → Int → Mem → Option (Int × Mem)) (h_0 : ∀ (x0 x1 x2 : Int) (μ μ' : Mem) (r : Int), isK x0 12 → rec 0 x0 x1 x2 0 μ = some (r, μ') → FrR μ μ') (h_1 : ∀ (x0 x1 x2 x3 : Int) (μ μ' : Mem) (r : Int), isK x0 12 → rec 1 x0 x1 x2 x3 μ = some (r, μ') → FrR μ μ') {x0 x3 x4 : Int} {μ μ' : Mem} {r : Int} (t0 : isK x0 12) (hf : f_X12_winsAt_j62 rec x0 x3 x4 μ = some (r, μ')) : FrR μ μ' := by
  unfold f_X12_winsAt_j62 at hf
  obtain ⟨g3, hf⟩ := gd_some hf
  obtain ⟨μ1, e2, hf⟩ := nm_some hf
  have fq1 := (frr_ms (by have := bd_12 t0; omega) e2)
  obtain ⟨g6, hf⟩ := gd_some hf
  obtain ⟨g7, hf⟩ := gd_some hf
  obtain ⟨μ4, e5, hf⟩ := nm_some hf
  have fq2 := fq1.trans (frr_ms (by have := bd_12 t0; omega) e5)
  obtain ⟨g8, hf⟩ := gd_some hf
  cases hf; exact fq2
theorem frr_w_X12_winsAt_30 (rec : Nat → Int → Int → Int → Int → Mem → Option (Int × Mem)) (h_0 : ∀ (x0 x1 x2 : Int) (μ μ' : Mem) (r : Int), isK x0 12 → rec 0 x0 x1 x2 0 μ = some (r, μ') → FrR μ μ') (h_1 : ∀ (x0 x1 x2 x3 : Int) (μ μ' : Mem) (r : Int), isK x0 12 → rec 1 x0 x1 x2 x3 μ = some (r, μ') → FrR μ μ') : ∀ (n : Nat) (x0 x1 x2 x3 x4 x5 : Int) (μ μ' : Mem) (r : Int), isK x0 12 → f_X12_winsAt_w30 rec n x0 x1 x2 x3 x4 x5 μ = some (r, μ') → FrR μ μ' := by
  intro n
  induction n with
  | zero => intro x0 x1 x2 x3 x4 x5 μ μ' r t0 hf; cases hf
  | succ n ih =>
    intro x0 x1 x2 x3 x4 x5 μ μ' r t0 hf
    rw [f_X12_winsAt_w30.eq_2] at hf
    rcases Decidable.em (nrm (μ (x0 + 1) 2) ≤ nrm x5) with c1 | c1
    · have hf := ite_t c1 hf
      exact frr_w_X12_winsAt_62 _ h_0 h_1 t0 hf
    · have hf := ite_f c1 hf
      rcases Decidable.em (nrm x4 = 0) with c2 | c2
      · have hf := ite_t c2 hf
        obtain ⟨r4, μ3, e5, hf⟩ := bn_some hf
        have fq3 := (h_1 _ _ _ _ _ _ _ t0 e5)
        exact fq3.trans (ih _ _ _ _ _ _ _ _ _ t0 hf)
      · have hf := ite_f c2 hf
        exact frr_w_X12_winsAt_62 _ h_0 h_1 t0 hf
theorem frr_w_X12_winsAt_0 (rec : Nat → Int → Int → Int → Int → Mem → Option (Int × Mem)) (h_0 : ∀ (x0 x1 x2 : Int) (μ μ' : Mem) (r : Int), isK x0 12 → rec 0 x0 x1 x2 0 μ = some (r, μ') → FrR μ μ') (h_1 : ∀ (x0 x1 x2 x3 : Int) (μ μ' : Mem) (r : Int), isK x0 12 → rec 1 x0 x1 x2 x3 μ = some (r, μ') → FrR μ μ') {x0 x1 x2 : Int} {μ μ' : Mem} {r : Int} (t0 : isK x0 12) (hf : b_X12_winsAt rec x0 x1 x2 μ = some (r, μ')) : FrR μ μ' := by
  unfold b_X12_winsAt at hf
  obtain ⟨v1, e2, hf⟩ := nm_some hf
  obtain ⟨g3, hf⟩ := gd_some hf
  rcases Decidable.em (nrm (μ (x0 + 13) (nrm v1)) = 0) with c4 | c4
  · have hf := ite_t c4 hf
    exact frr_w_X12_winsAt_30 _ h_0 h_1 FU _ _ _ _ _ _ _ _ _ t0 hf
  · have hf := ite_f c4 hf
    obtain ⟨g5, hf⟩ := gd_some hf
    obtain ⟨g6, hf⟩ := gd_some hf
    cases hf; exact frr_rf
theorem frr_w_X12_winsBy_0 (rec : Nat → Int → Int → Int → Int → Mem → Option (Int × Mem)) (h_0 : ∀ (x0 x1 x2 : Int) (μ μ' : Mem) (r : Int), isK x0 12 → rec 0 x0 x1 x2 0 μ = some (r, μ') → FrR μ μ') (h_1 : ∀ (x0 x1 x2 x3 : Int) (μ μ' : Mem) (r : Int), isK x0 12 → rec 1 x0 x1 x2 x3 μ = some (r, μ') → FrR μ μ') {x0 x1 x2 x3 : Int} {μ μ' : Mem} {r : Int} (t0 : isK x0 12) (hf : b_X12_winsBy rec x0 x1 x2 x3 μ = some (r, μ')) : FrR μ μ' := by
  unfold b_X12_winsBy at hf
  obtain ⟨r2, μ1, e3, hf⟩ := bn_some hf
  have fq1 := (frr_X12_otherEnd t0 e3)
  rcases Decidable.em (nrm r2 = nrm (-1)) with c4 | c4
  · have hf := ite_t c4 hf
    cases hf; exact fq1
  · have hf := ite_f c4 hf
    obtain ⟨r6, μ5, e7, hf⟩ := bn_some hf
    have fq2 := fq1.trans (frr_X12_isIn e7)
    rcases Decidable.em (nrm r6 = 0) with c8 | c8
    · have hf := ite_t c8 hf
      obtain ⟨r10, μ9, e11, hf⟩ := bn_some hf
      have fq3 := fq2.trans (frr_X12_isOpen t0 e11)
      rcases Decidable.em (nrm r10 = 0) with c12 | c12
      · have hf := ite_t c12 hf
        cases hf; exact fq3
      · have hf := ite_f c12 hf
        obtain ⟨r14, μ13, e15, hf⟩ := bn_some hf
        have fq4 := fq3.trans (h_0 _ _ _ _ _ _ t0 e15)
        rcases Decidable.em (nrm r14 = 0) with c16 | c16
        · have hf := ite_t c16 hf
          cases hf; exact fq4
        · have hf := ite_f c16 hf
          cases hf; exact fq4
    · have hf := ite_f c8 hf
      cases hf; exact fq2
theorem frrg_X12_winsAt : ∀ n0 : Nat, (∀ (x0 x1 x2 : Int) (μ μ' : Mem) (r : Int), isK x0 12 → g_X12_winsAt n0 0 x0 x1 x2 0 μ = some (r, μ') → FrR μ μ') ∧ (∀ (x0 x1 x2 x3 : Int) (μ μ' : Mem) (r : Int), isK x0 12 → g_X12_winsAt n0 1 x0 x1 x2 x3 μ = some (r, μ') → FrR μ μ') := by
  intro n0
  induction n0 with
  | zero => exact ⟨fun _ _ _ _ _ _ _ hf => (by cases hf), fun _ _ _ _ _ _ _ _ hf => (by cases hf)⟩
  | succ n0 ih =>
    obtain ⟨h_0, h_1⟩ := ih
    refine ⟨?_, ?_⟩
    · intro x0 x1 x2 μ μ' r t0 hf
      rw [g_X12_winsAt.eq_2] at hf
      have hf := ite_t rfl hf
      exact frr_w_X12_winsAt_0 _ h_0 h_1 t0 hf
    · intro x0 x1 x2 x3 μ μ' r t0 hf
      rw [g_X12_winsAt.eq_2] at hf
      have hf := ite_t rfl (ite_f (by decide) hf)
      exact frr_w_X12_winsBy_0 _ h_0 h_1 t0 hf
theorem frr_X12_winsAt {x0 x1 x2 : Int} {μ μ' : Mem} {r : Int} (t0 : isK x0 12) (hf : f_X12_winsAt x0 x1 x2 μ = some (r, μ')) : FrR μ μ' := ((frrg_X12_winsAt 64).1) _ _ _ _ _ _ t0 hf
theorem frr_X12_winsBy {x0 x1 x2 x3 : Int} {μ μ' : Mem} {r : Int} (t0 : isK x0 12) (hf : f_X12_winsBy x0 x1 x2 x3 μ = some (r, μ')) : FrR μ μ' := ((frrg_X12_winsAt 64).2) _ _ _ _ _ _ _ t0 hf
theorem frr_w_X12_forgets_2 : ∀ (n : Nat) (x0 x1 : Int) (μ μ' : Mem) (r : Int), isK x0 12 → f_X12_forgets_w2 n x0 x1 μ = some (r, μ') → FrR μ μ' := by
  intro n
  induction n with
  | zero => intro x0 x1 μ μ' r t0 hf; cases hf
  | succ n ih =>
    intro x0 x1 μ μ' r t0 hf
    rw [f_X12_forgets_w2.eq_2] at hf
    rcases Decidable.em (nrm 3584 ≤ nrm x1) with c1 | c1
    · have hf := ite_t c1 hf
      cases hf; exact frr_rf
    · have hf := ite_f c1 hf
      obtain ⟨g4, hf⟩ := gd_some hf
      obtain ⟨μ2, e3, hf⟩ := nm_some hf
      have fq1 := (frr_ms (by have := bd_12 t0; omega) e3)
      exact fq1.trans (ih _ _ _ _ _ t0 hf)
theorem frr_X12_forgets {x0 : Int} {μ μ' : Mem} {r : Int} (t0 : isK x0 12) (hf : f_X12_forgets x0 μ = some (r, μ')) : FrR μ μ' := by
  unfold f_X12_forgets at hf
  exact frr_w_X12_forgets_2 FU _ _ _ _ _ t0 hf
theorem frr_X12_wins {x0 : Int} {μ μ' : Mem} {r : Int} (t0 : isK x0 12) (hf : f_X12_wins x0 μ = some (r, μ')) : FrR μ μ' := by
  unfold f_X12_wins at hf
  obtain ⟨μ1, e2, hf⟩ := nm_some hf
  have fq1 := (frr_ms (by have := bd_12 t0; omega) e2)
  obtain ⟨r4, μ3, e5, hf⟩ := bn_some hf
  have fq2 := fq1.trans (frr_X12_forgets t0 e5)
  obtain ⟨r7, μ6, e8, hf⟩ := bn_some hf
  have fq3 := fq2.trans (frr_X12_winsAt t0 e8)
  rcases Decidable.em (nrm r7 = 0) with c9 | c9
  · have hf := ite_t c9 hf
    cases hf; exact fq3
  · have hf := ite_f c9 hf
    cases hf; exact fq3
theorem frr_w_X12_best_11 : ∀ (n : Nat) (x0 x1 : Int) (μ μ' : Mem) (r : Int), isK x0 12 → f_X12_best_w11 n x0 x1 μ = some (r, μ') → FrR μ μ' := by
  intro n
  induction n with
  | zero => intro x0 x1 μ μ' r t0 hf; cases hf
  | succ n ih =>
    intro x0 x1 μ μ' r t0 hf
    rw [f_X12_best_w11.eq_2] at hf
    rcases Decidable.em (nrm (μ (x0 + 1) 2) ≤ nrm x1) with c1 | c1
    · have hf := ite_t c1 hf
      cases hf; exact frr_rf
    · have hf := ite_f c1 hf
      obtain ⟨r3, μ2, e4, hf⟩ := bn_some hf
      have fq1 := (frr_X12_winsBy t0 e4)
      rcases Decidable.em (nrm r3 = 0) with c5 | c5
      · have hf := ite_t c5 hf
        exact fq1.trans (ih _ _ _ _ _ t0 hf)
      · have hf := ite_f c5 hf
        cases hf; exact fq1
theorem frr_X12_best {x0 : Int} {μ μ' : Mem} {r : Int} (t0 : isK x0 12) (hf : f_X12_best x0 μ = some (r, μ')) : FrR μ μ' := by
  unfold f_X12_best at hf
  obtain ⟨μ1, e2, hf⟩ := nm_some hf
  have fq2 := (frr_ms (by have := bd_12 t0; omega) e2)
  obtain ⟨r4, μ3, e5, hf⟩ := bn_some hf
  have fq3 := fq2.trans (frr_X12_forgets t0 e5)
  exact fq3.trans (frr_w_X12_best_11 FU _ _ _ _ _ t0 hf)
theorem frr_w_X12_wholeOf_4 : ∀ (n : Nat) (x0 x1 x2 : Int) (μ μ' : Mem) (r : Int), f_X12_wholeOf_w4 n x0 x1 x2 μ = some (r, μ') → FrR μ μ' := by
  intro n
  induction n with
  | zero => intro x0 x1 x2 μ μ' r hf; cases hf
  | succ n ih =>
    intro x0 x1 x2 μ μ' r hf
    rw [f_X12_wholeOf_w4.eq_2] at hf
    rcases Decidable.em (nrm x0 ≤ nrm x2) with c1 | c1
    · have hf := ite_t c1 hf
      cases hf; exact frr_rf
    · have hf := ite_f c1 hf
      obtain ⟨v2, e3, hf⟩ := nm_some hf
      exact ih _ _ _ _ _ _ hf
theorem frr_X12_wholeOf {x0 : Int} {μ μ' : Mem} {r : Int} (hf : f_X12_wholeOf x0 μ = some (r, μ')) : FrR μ μ' := by
  unfold f_X12_wholeOf at hf
  exact frr_w_X12_wholeOf_4 FU _ _ _ _ _ _ hf
theorem frr_X12_likelyBy {x0 x1 x2 x3 : Int} {μ μ' : Mem} {r : Int} (t0 : isK x0 12) (hf : f_X12_likelyBy x0 x1 x2 x3 μ = some (r, μ')) : FrR μ μ' := by
  unfold f_X12_likelyBy at hf
  obtain ⟨r2, μ1, e3, hf⟩ := bn_some hf
  have fq1 := (frr_X12_otherEnd t0 e3)
  rcases Decidable.em (nrm r2 = nrm (-1)) with c4 | c4
  · have hf := ite_t c4 hf
    cases hf; exact fq1
  · have hf := ite_f c4 hf
    obtain ⟨r6, μ5, e7, hf⟩ := bn_some hf
    have fq2 := fq1.trans (frr_X12_isOpen t0 e7)
    rcases Decidable.em (nrm r6 = 0) with c8 | c8
    · have hf := ite_t c8 hf
      cases hf; exact fq2
    · have hf := ite_f c8 hf
      obtain ⟨g9, hf⟩ := gd_some hf
      obtain ⟨g10, hf⟩ := gd_some hf
      cases hf; exact fq2
theorem frr_w_X12_laysLikely_97 (k2 : Int → Int → Int → Int → Mem → Option (Int × Mem)) (h2 : ∀ (x0 x1 x2 x3 : Int) (μ μ' : Mem) (r : Int), isK x0 12 → k2 x0 x1 x2 x3 μ = some (r, μ') → FrR μ μ') (k10 : Int → Int → Int → Int → Int → Mem → Option (Int × Mem)) (h10 : ∀ (x0 x1 x2 x3 x4 : Int) (μ μ' : Mem) (r : Int), isK x0 12 → k10 x0 x1 x2 x3 x4 μ = some (r, μ') → FrR μ μ') {x0 x1 x2 x3 x4 x5 : Int} {μ μ' : Mem} {r : Int} (t0 : isK x0 12) (hf : f_X12_laysLikely_j97 k2 k10 x0 x1 x2 x3 x4 x5 μ = some (r, μ')) : FrR μ μ' := by
  unfold f_X12_laysLikely_j97 at hf
  obtain ⟨g3, hf⟩ := gd_some hf
  obtain ⟨μ1, e2, hf⟩ := nm_some hf
  have fq1 := (frr_ms (by have := bd_12 t0; omega) e2)
  exact fq1.trans (h10 _ _ _ _ _ _ _ _ t0 hf)
theorem frr_w_X12_laysLikely_89 (k2 : Int → Int → Int → Int → Mem → Option (Int × Mem)) (h2 : ∀ (x0 x1 x2 x3 : Int) (μ μ' : Mem) (r : Int), isK x0 12 → k2 x0 x1 x2 x3 μ = some (r, μ') → FrR μ μ') (k10 : Int → Int → Int → Int → Int → Mem → Option (Int × Mem)) (h10 : ∀ (x0 x1 x2 x3 x4 : Int) (μ μ' : Mem) (r : Int), isK x0 12 → k10 x0 x1 x2 x3 x4 μ = some (r, μ') → FrR μ μ') (k40 : Int → Int → Int → Int → Int → Int → Int → Mem → Option (Int × Mem)) (h40 : ∀ (x0 x1 x2 x3 x4 x5 x6 : Int) (μ μ' : Mem) (r : Int), isK x0 12 → k40 x0 x1 x2 x3 x4 x5 x6 μ = some (r, μ') → FrR μ μ') {x0 x1 x2 x3 x4 x6 s0 : Int} {μ μ' : Mem} {r : Int} (t0 : isK x0 12) (hf : f_X12_laysLikely_j89 k2 k10 k40 x0 x1 x2 x3 x4 x6 s0 μ = some (r, μ')) : FrR μ μ' := by
  unfold f_X12_laysLikely_j89 at hf
  exact h40 _ _ _ _ _ _ _ _ _ _ t0 hf
theorem frr_w_X12_laysLikely_40 (k2 : Int → Int → Int → Int → Mem → Option (Int × Mem)) (h2 : ∀ (x0 x1 x2 x3 : Int) (μ μ' : Mem) (r : Int), isK x0 12 → k2 x0 x1 x2 x3 μ = some (r, μ') → FrR μ μ') (k10 : Int → Int → Int → Int → Int → Mem → Option (Int × Mem)) (h10 : ∀ (x0 x1 x2 x3 x4 : Int) (μ μ' : Mem) (r : Int), isK x0 12 → k10 x0 x1 x2 x3 x4 μ = some (r, μ') → FrR μ μ') : ∀ (n : Nat) (x0 x1 x2 x3 x4 x5 x6 : Int) (μ μ' : Mem) (r : Int), isK x0 12 → f_X12_laysLikely_w40 k2 k10 n x0 x1 x2 x3 x4 x5 x6 μ = some (r, μ') → FrR μ μ' := by
  intro n
  induction n with
  | zero => intro x0 x1 x2 x3 x4 x5 x6 μ μ' r t0 hf; cases hf
  | succ n ih =>
    intro x0 x1 x2 x3 x4 x5 x6 μ μ' r t0 hf
    rw [f_X12_laysLikely_w40.eq_2] at hf
    rcases Decidable.em (nrm (μ (x0 + 1) 2) ≤ nrm x6) with c1 | c1
    · have hf := ite_t c1 hf
      exact frr_w_X12_laysLikely_97 _ h2 _ h10 t0 hf
    · have hf := ite_f c1 hf
      rcases Decidable.em (nrm x3 ≤ 0) with c2 | c2
      · have hf := ite_t c2 hf
        exact frr_w_X12_laysLikely_97 _ h2 _ h10 t0 hf
      · have hf := ite_f c2 hf
        rcases Decidable.em (nrm x4 = nrm x1) with c3 | c3
        · have hf := ite_t c3 hf
          exact frr_w_X12_laysLikely_97 _ h2 _ h10 t0 hf
        · have hf := ite_f c3 hf
          obtain ⟨r5, μ4, e6, hf⟩ := bn_some hf
          have fq2 := (frr_X12_likelyBy t0 e6)
          rcases Decidable.em (nrm r5 ≤ nrm x5) with c7 | c7
          · have hf := ite_t c7 hf
            exact fq2.trans (frr_w_X12_laysLikely_89 _ h2 _ h10 _ ih t0 hf)
          · have hf := ite_f c7 hf
            obtain ⟨r9, μ8, e10, hf⟩ := bn_some hf
            have fq3 := fq2.trans (frr_X12_likelyBy t0 e10)
            exact fq3.trans (frr_w_X12_laysLikely_89 _ h2 _ h10 _ ih t0 hf)
theorem frr_w_X12_laysLikely_35 (k2 : Int → Int → Int → Int → Mem → Option (Int × Mem)) (h2 : ∀ (x0 x1 x2 x3 : Int) (μ μ' : Mem) (r : Int), isK x0 12 → k2 x0 x1 x2 x3 μ = some (r, μ') → FrR μ μ') (k10 : Int → Int → Int → Int → Int → Mem → Option (Int × Mem)) (h10 : ∀ (x0 x1 x2 x3 x4 : Int) (μ μ' : Mem) (r : Int), isK x0 12 → k10 x0 x1 x2 x3 x4 μ = some (r, μ') → FrR μ μ') {x0 x1 x2 x3 x4 s0 : Int} {μ μ' : Mem} {r : Int} (t0 : isK x0 12) (hf : f_X12_laysLikely_j35 k2 k10 x0 x1 x2 x3 x4 s0 μ = some (r, μ')) : FrR μ μ' := by
  unfold f_X12_laysLikely_j35 at hf
  exact frr_w_X12_laysLikely_40 _ h2 _ h10 FU _ _ _ _ _ _ _ _ _ _ t0 hf
theorem frr_w_X12_laysLikely_10 (k2 : Int → Int → Int → Int → Mem → Option (Int × Mem)) (h2 : ∀ (x0 x1 x2 x3 : Int) (μ μ' : Mem) (r : Int), isK x0 12 → k2 x0 x1 x2 x3 μ = some (r, μ') → FrR μ μ') : ∀ (n : Nat) (x0 x1 x2 x3 x4 : Int) (μ μ' : Mem) (r : Int), isK x0 12 → f_X12_laysLikely_w10 k2 n x0 x1 x2 x3 x4 μ = some (r, μ') → FrR μ μ' := by
  intro n
  induction n with
  | zero => intro x0 x1 x2 x3 x4 μ μ' r t0 hf; cases hf
  | succ n ih =>
    intro x0 x1 x2 x3 x4 μ μ' r t0 hf
    rw [f_X12_laysLikely_w10.eq_2] at hf
    rcases Decidable.em (nrm (μ (x0 + 1) 1) ≤ nrm x4) with c1 | c1
    · have hf := ite_t c1 hf
      exact h2 _ _ _ _ _ _ _ t0 hf
    · have hf := ite_f c1 hf
      rcases Decidable.em (nrm x4 = nrm x1) with c2 | c2
      · have hf := ite_t c2 hf
        obtain ⟨r4, μ3, e5, hf⟩ := bn_some hf
        have fq4 := (frr_X12_wholeOf e5)
        exact fq4.trans (frr_w_X12_laysLikely_35 _ h2 _ ih t0 hf)
      · have hf := ite_f c2 hf
        exact frr_w_X12_laysLikely_35 _ h2 _ ih t0 hf
theorem frr_w_X12_laysLikely_2 : ∀ (n : Nat) (x0 x1 x2 x3 : Int) (μ μ' : Mem) (r : Int), isK x0 12 → f_X12_laysLikely_w2 n x0 x1 x2 x3 μ = some (r, μ') → FrR μ μ' := by
  intro n
  induction n with
  | zero => intro x0 x1 x2 x3 μ μ' r t0 hf; cases hf
  | succ n ih =>
    intro x0 x1 x2 x3 μ μ' r t0 hf
    rw [f_X12_laysLikely_w2.eq_2] at hf
    rcases Decidable.em (nrm x2 < nrm x3) with c1 | c1
    · have hf := ite_t c1 hf
      obtain ⟨g2, hf⟩ := gd_some hf
      cases hf; exact frr_rf
    · have hf := ite_f c1 hf
      exact frr_w_X12_laysLikely_10 _ ih FU _ _ _ _ _ _ _ _ t0 hf
theorem frr_X12_laysLikely {x0 x1 x2 : Int} {μ μ' : Mem} {r : Int} (t0 : isK x0 12) (hf : f_X12_laysLikely x0 x1 x2 μ = some (r, μ')) : FrR μ μ' := by
  unfold f_X12_laysLikely at hf
  exact frr_w_X12_laysLikely_2 FU _ _ _ _ _ _ _ t0 hf
theorem frr_w_X12_common_0 (rec : Nat → Int → Int → Mem → Option (Int × Mem)) (h_0 : ∀ (x0 x1 : Int) (μ μ' : Mem) (r : Int), rec 0 x0 x1 μ = some (r, μ') → FrR μ μ') {x0 x1 : Int} {μ μ' : Mem} {r : Int} (hf : b_X12_common rec x0 x1 μ = some (r, μ')) : FrR μ μ' := by
  unfold b_X12_common at hf
  rcases Decidable.em (nrm x1 = 0) with c1 | c1
  · have hf := ite_t c1 hf
    cases hf; exact frr_rf
  · have hf := ite_f c1 hf
    obtain ⟨g2, hf⟩ := gd_some hf
    obtain ⟨r4, μ3, e5, hf⟩ := bn_some hf
    have fq1 := (h_0 _ _ _ _ _ e5)
    cases hf; exact fq1
theorem frrg_X12_common : ∀ n0 : Nat, (∀ (x0 x1 : Int) (μ μ' : Mem) (r : Int), g_X12_common n0 0 x0 x1 μ = some (r, μ') → FrR μ μ') := by
  intro n0
  induction n0 with
  | zero => exact fun _ _ _ _ _ hf => (by cases hf)
  | succ n0 ih =>
    have h_0 := ih
    · intro x0 x1 μ μ' r hf
      rw [g_X12_common.eq_2] at hf
      have hf := ite_t rfl hf
      exact frr_w_X12_common_0 _ h_0 hf
theorem frr_X12_common {x0 x1 : Int} {μ μ' : Mem} {r : Int} (hf : f_X12_common x0 x1 μ = some (r, μ')) : FrR μ μ' := ((frrg_X12_common 64)) _ _ _ _ _ hf
theorem frr_w_X12_chance_62 {x2 x4 s0 : Int} {μ μ' : Mem} {r : Int} (hf : f_X12_chance_j62 x2 x4 s0 μ = some (r, μ')) : FrR μ μ' := by
  unfold f_X12_chance_j62 at hf
  obtain ⟨r2, μ1, e3, hf⟩ := bn_some hf
  have fq1 := (frr_X12_wholeOf e3)
  obtain ⟨r5, μ4, e6, hf⟩ := bn_some hf
  have fq2 := fq1.trans (frr_X12_common e6)
  obtain ⟨g7, hf⟩ := gd_some hf
  cases hf; exact fq2
theorem frr_X12_chance {x0 x1 x2 x3 : Int} {μ μ' : Mem} {r : Int} (t0 : isK x0 12) (hf : f_X12_chance x0 x1 x2 x3 μ = some (r, μ')) : FrR μ μ' := by
  unfold f_X12_chance at hf
  obtain ⟨μ1, e2, hf⟩ := nm_some hf
  have fq3 := (frr_ms (by have := bd_12 t0; omega) e2)
  obtain ⟨r4, μ3, e5, hf⟩ := bn_some hf
  have fq4 := fq3.trans (frr_X12_isPlace t0 e5)
  rcases Decidable.em (nrm r4 = 0) with c6 | c6
  · have hf := ite_t c6 hf
    cases hf; exact fq4
  · have hf := ite_f c6 hf
    obtain ⟨r8, μ7, e9, hf⟩ := bn_some hf
    have fq5 := fq4.trans (frr_X12_within e9)
    rcases Decidable.em (nrm r8 = 0) with c10 | c10
    · have hf := ite_t c10 hf
      cases hf; exact fq5
    · have hf := ite_f c10 hf
      obtain ⟨r12, μ11, e13, hf⟩ := bn_some hf
      have fq6 := fq5.trans (frr_X12_within e13)
      rcases Decidable.em (nrm r12 = 0) with c14 | c14
      · have hf := ite_t c14 hf
        cases hf; exact fq6
      · have hf := ite_f c14 hf
        obtain ⟨r16, μ15, e17, hf⟩ := bn_some hf
        have fq7 := fq6.trans (frr_X12_laysLikely t0 e17)
        rcases Decidable.em (nrm x3 = 0) with c18 | c18
        · have hf := ite_t c18 hf
          exact fq7.trans (frr_w_X12_chance_62 hf)
        · have hf := ite_f c18 hf
          obtain ⟨r20, μ19, e21, hf⟩ := bn_some hf
          have fq8 := fq7.trans (frr_X12_wholeOf e21)
          exact fq8.trans (frr_w_X12_chance_62 hf)
theorem frr_w_X12_bestBy_58 : ∀ (n : Nat) (x0 x2 x3 x4 : Int) (μ μ' : Mem) (r : Int), isK x0 12 → f_X12_bestBy_w58 n x0 x2 x3 x4 μ = some (r, μ') → FrR μ μ' := by
  intro n
  induction n with
  | zero => intro x0 x2 x3 x4 μ μ' r t0 hf; cases hf
  | succ n ih =>
    intro x0 x2 x3 x4 μ μ' r t0 hf
    rw [f_X12_bestBy_w58.eq_2] at hf
    obtain ⟨r2, μ1, e3, hf⟩ := bn_some hf
    have fq1 := (frr_X12_likelyBy t0 e3)
    rcases Decidable.em (nrm r2 = nrm x3) with c4 | c4
    · have hf := ite_t c4 hf
      cases hf; exact fq1
    · have hf := ite_f c4 hf
      exact fq1.trans (ih _ _ _ _ _ _ _ t0 hf)
theorem frr_X12_bestBy {x0 x1 x2 : Int} {μ μ' : Mem} {r : Int} (t0 : isK x0 12) (hf : f_X12_bestBy x0 x1 x2 μ = some (r, μ')) : FrR μ μ' := by
  unfold f_X12_bestBy at hf
  obtain ⟨μ1, e2, hf⟩ := nm_some hf
  have fq2 := (frr_ms (by have := bd_12 t0; omega) e2)
  obtain ⟨r4, μ3, e5, hf⟩ := bn_some hf
  have fq3 := fq2.trans (frr_X12_isPlace t0 e5)
  rcases Decidable.em (nrm r4 = 0) with c6 | c6
  · have hf := ite_t c6 hf
    cases hf; exact fq3
  · have hf := ite_f c6 hf
    obtain ⟨r8, μ7, e9, hf⟩ := bn_some hf
    have fq4 := fq3.trans (frr_X12_within e9)
    rcases Decidable.em (nrm r8 = 0) with c10 | c10
    · have hf := ite_t c10 hf
      cases hf; exact fq4
    · have hf := ite_f c10 hf
      obtain ⟨r12, μ11, e13, hf⟩ := bn_some hf
      have fq5 := fq4.trans (frr_X12_laysLikely t0 e13)
      rcases Decidable.em (nrm r12 = 0) with c14 | c14
      · have hf := ite_t c14 hf
        cases hf; exact fq5
      · have hf := ite_f c14 hf
        rcases Decidable.em (nrm x1 = nrm (μ11 (x0 + 1) 55)) with c15 | c15
        · have hf := ite_t c15 hf
          cases hf; exact fq5
        · have hf := ite_f c15 hf
          exact fq5.trans (frr_w_X12_bestBy_58 FU _ _ _ _ _ _ _ t0 hf)
theorem frr_X12_cut {x0 x2 : Int} {μ μ' : Mem} {r : Int} (hf : f_X12_cut x0 x2 μ = some (r, μ')) : FrR μ μ' := by
  unfold f_X12_cut at hf
  rcases Decidable.em (nrm x2 = 0) with c1 | c1
  · have hf := ite_t c1 hf
    cases hf; exact frr_rf
  · have hf := ite_f c1 hf
    rcases Decidable.em (nrm x2 = nrm 1) with c2 | c2
    · have hf := ite_t c2 hf
      cases hf; exact frr_rf
    · have hf := ite_f c2 hf
      rcases Decidable.em (nrm x2 = nrm 2) with c3 | c3
      · have hf := ite_t c3 hf
        cases hf; exact frr_rf
      · have hf := ite_f c3 hf
        cases hf; exact frr_rf
theorem frr_w_X12_numbers_64 : ∀ (n : Nat) (x0 x1 x3 x4 : Int) (μ μ' : Mem) (r : Int), isK x0 12 → f_X12_numbers_w64 n x0 x1 x3 x4 μ = some (r, μ') → FrR μ μ' := by
  intro n
  induction n with
  | zero => intro x0 x1 x3 x4 μ μ' r t0 hf; cases hf
  | succ n ih =>
    intro x0 x1 x3 x4 μ μ' r t0 hf
    rw [f_X12_numbers_w64.eq_2] at hf
    rcases Decidable.em (nrm x3 ≤ nrm x4) with c1 | c1
    · have hf := ite_t c1 hf
      cases hf; exact frr_rf
    · have hf := ite_f c1 hf
      obtain ⟨g4, hf⟩ := gd_some hf
      obtain ⟨μ2, e3, hf⟩ := nm_some hf
      have fq1 := (frr_ms (by have := bd_12 t0; omega) e3)
      exact fq1.trans (ih _ _ _ _ _ _ _ t0 hf)
theorem frr_X12_numbers {x0 x1 x2 x3 : Int} {μ μ' : Mem} {r : Int} (t0 : isK x0 12) (hf : f_X12_numbers x0 x1 x2 x3 μ = some (r, μ')) : FrR μ μ' := by
  unfold f_X12_numbers at hf
  obtain ⟨μ1, e2, hf⟩ := nm_some hf
  have fq2 := (frr_ms (by have := bd_12 t0; omega) e2)
  obtain ⟨r4, μ3, e5, hf⟩ := bn_some hf
  have fq3 := fq2.trans (frr_X12_within e5)
  rcases Decidable.em (nrm r4 = 0) with c6 | c6
  · have hf := ite_t c6 hf
    cases hf; exact fq3
  · have hf := ite_f c6 hf
    obtain ⟨r8, μ7, e9, hf⟩ := bn_some hf
    have fq4 := fq3.trans (frr_X12_within e9)
    rcases Decidable.em (nrm r8 = 0) with c10 | c10
    · have hf := ite_t c10 hf
      cases hf; exact fq4
    · have hf := ite_f c10 hf
      obtain ⟨r12, μ11, e13, hf⟩ := bn_some hf
      have fq5 := fq4.trans (frr_X12_within e13)
      rcases Decidable.em (nrm r12 = 0) with c14 | c14
      · have hf := ite_t c14 hf
        cases hf; exact fq5
      · have hf := ite_f c14 hf
        obtain ⟨g17, hf⟩ := gd_some hf
        obtain ⟨μ15, e16, hf⟩ := nm_some hf
        have fq6 := fq5.trans (frr_ms (by have := bd_12 t0; omega) e16)
        obtain ⟨g20, hf⟩ := gd_some hf
        obtain ⟨μ18, e19, hf⟩ := nm_some hf
        have fq7 := fq6.trans (frr_ms (by have := bd_12 t0; omega) e19)
        exact fq7.trans (frr_w_X12_numbers_64 FU _ _ _ _ _ _ _ t0 hf)
theorem frr_X12_write {x0 x1 x2 x3 : Int} {μ μ' : Mem} {r : Int} (t0 : isK x0 12) (hf : f_X12_write x0 x1 x2 x3 μ = some (r, μ')) : FrR μ μ' := by
  unfold f_X12_write at hf
  obtain ⟨μ1, e2, hf⟩ := nm_some hf
  have fq1 := (frr_ms (by have := bd_12 t0; omega) e2)
  obtain ⟨r4, μ3, e5, hf⟩ := bn_some hf
  have fq2 := fq1.trans (frr_X12_noTray t0 e5)
  rcases Decidable.em (nrm r4 = 0) with c6 | c6
  · have hf := ite_t c6 hf
    obtain ⟨g7, hf⟩ := gd_some hf
    obtain ⟨r9, μ8, e10, hf⟩ := bn_some hf
    have fq3 := fq2.trans (frr_X12_within e10)
    rcases Decidable.em (nrm r9 = 0) with c11 | c11
    · have hf := ite_t c11 hf
      cases hf; exact fq3
    · have hf := ite_f c11 hf
      obtain ⟨g12, hf⟩ := gd_some hf
      obtain ⟨r14, μ13, e15, hf⟩ := bn_some hf
      have fq4 := fq3.trans (frr_X12_cut e15)
      obtain ⟨g18, hf⟩ := gd_some hf
      obtain ⟨μ16, e17, hf⟩ := nm_some hf
      have fq5 := fq4.trans (frr_ms (by have := bd_12 t0; omega) e17)
      obtain ⟨g19, hf⟩ := gd_some hf
      cases hf; exact fq5
  · have hf := ite_f c6 hf
    cases hf; exact fq2
theorem frr_w_X12_lists_93 : ∀ (n : Nat) (x0 x1 x5 x6 : Int) (μ μ' : Mem) (r : Int), isK x0 12 → f_X12_lists_w93 n x0 x1 x5 x6 μ = some (r, μ') → FrR μ μ' := by
  intro n
  induction n with
  | zero => intro x0 x1 x5 x6 μ μ' r t0 hf; cases hf
  | succ n ih =>
    intro x0 x1 x5 x6 μ μ' r t0 hf
    rw [f_X12_lists_w93.eq_2] at hf
    rcases Decidable.em (nrm x5 ≤ nrm x6) with c1 | c1
    · have hf := ite_t c1 hf
      cases hf; exact frr_rf
    · have hf := ite_f c1 hf
      obtain ⟨r3, μ2, e4, hf⟩ := bn_some hf
      have fq1 := (frr_X12_laneAt t0 e4)
      obtain ⟨g7, hf⟩ := gd_some hf
      obtain ⟨μ5, e6, hf⟩ := nm_some hf
      have fq2 := fq1.trans (frr_ms (by have := bd_12 t0; omega) e6)
      exact fq2.trans (ih _ _ _ _ _ _ _ t0 hf)
theorem frr_w_X12_lists_88 {x0 x1 s0 : Int} {μ μ' : Mem} {r : Int} (t0 : isK x0 12) (hf : f_X12_lists_j88 x0 x1 s0 μ = some (r, μ')) : FrR μ μ' := by
  unfold f_X12_lists_j88 at hf
  exact frr_w_X12_lists_93 FU _ _ _ _ _ _ _ t0 hf
theorem frr_X12_lists {x0 x1 x2 : Int} {μ μ' : Mem} {r : Int} (t0 : isK x0 12) (hf : f_X12_lists x0 x1 x2 μ = some (r, μ')) : FrR μ μ' := by
  unfold f_X12_lists at hf
  obtain ⟨μ1, e2, hf⟩ := nm_some hf
  have fq3 := (frr_ms (by have := bd_12 t0; omega) e2)
  obtain ⟨r4, μ3, e5, hf⟩ := bn_some hf
  have fq4 := fq3.trans (frr_X12_within e5)
  rcases Decidable.em (nrm r4 = 0) with c6 | c6
  · have hf := ite_t c6 hf
    cases hf; exact fq4
  · have hf := ite_f c6 hf
    obtain ⟨r8, μ7, e9, hf⟩ := bn_some hf
    have fq5 := fq4.trans (frr_X12_isPlace t0 e9)
    rcases Decidable.em (nrm r8 = 0) with c10 | c10
    · have hf := ite_t c10 hf
      cases hf; exact fq5
    · have hf := ite_f c10 hf
      obtain ⟨r12, μ11, e13, hf⟩ := bn_some hf
      have fq6 := fq5.trans (frr_X12_noTray t0 e13)
      rcases Decidable.em (nrm r12 = 0) with c14 | c14
      · have hf := ite_t c14 hf
        obtain ⟨r16, μ15, e17, hf⟩ := bn_some hf
        have fq7 := fq6.trans (frr_X12_laysCost t0 e17)
        rcases Decidable.em (nrm r16 = nrm 268435456) with c18 | c18
        · have hf := ite_t c18 hf
          cases hf; exact fq7
        · have hf := ite_f c18 hf
          obtain ⟨g19, hf⟩ := gd_some hf
          rcases Decidable.em (nrm (μ15 (x0 + 16) (nrm x1)) ≤ nrm (jrem r16 1000)) with c20 | c20
          · have hf := ite_t c20 hf
            obtain ⟨g21, hf⟩ := gd_some hf
            exact fq7.trans (frr_w_X12_lists_88 t0 hf)
          · have hf := ite_f c20 hf
            exact fq7.trans (frr_w_X12_lists_88 t0 hf)
      · have hf := ite_f c14 hf
        cases hf; exact fq6
theorem frr_w_X12_image_20 : ∀ (n : Nat) (x0 x1 x2 : Int) (μ μ' : Mem) (r : Int), isK x0 12 → f_X12_image_w20 n x0 x1 x2 μ = some (r, μ') → FrR μ μ' := by
  intro n
  induction n with
  | zero => intro x0 x1 x2 μ μ' r t0 hf; cases hf
  | succ n ih =>
    intro x0 x1 x2 μ μ' r t0 hf
    rw [f_X12_image_w20.eq_2] at hf
    rcases Decidable.em (nrm 1100 ≤ nrm x2) with c1 | c1
    · have hf := ite_t c1 hf
      obtain ⟨g4, hf⟩ := gd_some hf
      obtain ⟨μ2, e3, hf⟩ := nm_some hf
      have fq1 := (frr_ms (by have := bd_12 t0; omega) e3)
      cases hf; exact fq1
    · have hf := ite_f c1 hf
      obtain ⟨g5, hf⟩ := gd_some hf
      obtain ⟨g8, hf⟩ := gd_some hf
      obtain ⟨μ6, e7, hf⟩ := nm_some hf
      have fq2 := (frr_ms (by have := bd_12 t0; omega) e7)
      exact fq2.trans (ih _ _ _ _ _ _ t0 hf)
theorem frr_X12_image {x0 x1 : Int} {μ μ' : Mem} {r : Int} (t0 : isK x0 12) (hf : f_X12_image x0 x1 μ = some (r, μ')) : FrR μ μ' := by
  unfold f_X12_image at hf
  obtain ⟨μ1, e2, hf⟩ := nm_some hf
  have fq3 := (frr_ms (by have := bd_12 t0; omega) e2)
  obtain ⟨r4, μ3, e5, hf⟩ := bn_some hf
  have fq4 := fq3.trans (frr_X12_within e5)
  rcases Decidable.em (nrm r4 = 0) with c6 | c6
  · have hf := ite_t c6 hf
    cases hf; exact fq4
  · have hf := ite_f c6 hf
    exact fq4.trans (frr_w_X12_image_20 FU _ _ _ _ _ _ t0 hf)
theorem frr_w_X12_restore_32 : ∀ (n : Nat) (x0 x1 x2 : Int) (μ μ' : Mem) (r : Int), isK x0 12 → f_X12_restore_w32 n x0 x1 x2 μ = some (r, μ') → FrR μ μ' := by
  intro n
  induction n with
  | zero => intro x0 x1 x2 μ μ' r t0 hf; cases hf
  | succ n ih =>
    intro x0 x1 x2 μ μ' r t0 hf
    rw [f_X12_restore_w32.eq_2] at hf
    rcases Decidable.em (nrm 1100 ≤ nrm x2) with c1 | c1
    · have hf := ite_t c1 hf
      obtain ⟨μ2, e3, hf⟩ := nm_some hf
      have fq1 := (frr_ms (by have := bd_12 t0; omega) e3)
      cases hf; exact fq1
    · have hf := ite_f c1 hf
      obtain ⟨g4, hf⟩ := gd_some hf
      obtain ⟨g7, hf⟩ := gd_some hf
      obtain ⟨μ5, e6, hf⟩ := nm_some hf
      have fq2 := (frr_ms (by have := bd_12 t0; omega) e6)
      exact fq2.trans (ih _ _ _ _ _ _ t0 hf)
theorem frr_X12_restore {x0 x1 : Int} {μ μ' : Mem} {r : Int} (t0 : isK x0 12) (hf : f_X12_restore x0 x1 μ = some (r, μ')) : FrR μ μ' := by
  unfold f_X12_restore at hf
  obtain ⟨μ1, e2, hf⟩ := nm_some hf
  have fq3 := (frr_ms (by have := bd_12 t0; omega) e2)
  obtain ⟨r4, μ3, e5, hf⟩ := bn_some hf
  have fq4 := fq3.trans (frr_X12_within e5)
  rcases Decidable.em (nrm r4 = 0) with c6 | c6
  · have hf := ite_t c6 hf
    cases hf; exact fq4
  · have hf := ite_f c6 hf
    obtain ⟨g7, hf⟩ := gd_some hf
    rcases Decidable.em (nrm (μ3 (x0 + 2) (nrm x1)) = 0) with c8 | c8
    · have hf := ite_t c8 hf
      cases hf; exact fq4
    · have hf := ite_f c8 hf
      exact fq4.trans (frr_w_X12_restore_32 FU _ _ _ _ _ _ t0 hf)
theorem frr_X12_count {x0 x1 : Int} {μ μ' : Mem} {r : Int} (t0 : isK x0 12) (hf : f_X12_count x0 x1 μ = some (r, μ')) : FrR μ μ' := by
  unfold f_X12_count at hf
  obtain ⟨μ1, e2, hf⟩ := nm_some hf
  have fq1 := (frr_ms (by have := bd_12 t0; omega) e2)
  rcases Decidable.em (nrm x1 = 0) with c3 | c3
  · have hf := ite_t c3 hf
    cases hf; exact fq1
  have hf := ite_f c3 hf
  rcases Decidable.em (nrm x1 = 1) with c4 | c4
  · have hf := ite_t c4 hf
    cases hf; exact fq1
  have hf := ite_f c4 hf
  rcases Decidable.em (nrm x1 = 2) with c5 | c5
  · have hf := ite_t c5 hf
    cases hf; exact fq1
  have hf := ite_f c5 hf
  rcases Decidable.em (nrm x1 = 3) with c6 | c6
  · have hf := ite_t c6 hf
    cases hf; exact fq1
  have hf := ite_f c6 hf
  rcases Decidable.em (nrm x1 = 4) with c7 | c7
  · have hf := ite_t c7 hf
    cases hf; exact fq1
  have hf := ite_f c7 hf
  rcases Decidable.em (nrm x1 = 5) with c8 | c8
  · have hf := ite_t c8 hf
    cases hf; exact fq1
  have hf := ite_f c8 hf
  rcases Decidable.em (nrm x1 = 6) with c9 | c9
  · have hf := ite_t c9 hf
    cases hf; exact fq1
  have hf := ite_f c9 hf
  rcases Decidable.em (nrm x1 = 7) with c10 | c10
  · have hf := ite_t c10 hf
    obtain ⟨r12, μ11, e13, hf⟩ := bn_some hf
    have fq2 := fq1.trans (frr_X12_depthSum t0 e13)
    cases hf; exact fq2
  have hf := ite_f c10 hf
  rcases Decidable.em (nrm x1 = 8) with c14 | c14
  · have hf := ite_t c14 hf
    cases hf; exact fq1
  have hf := ite_f c14 hf
  rcases Decidable.em (nrm x1 = 9) with c15 | c15
  · have hf := ite_t c15 hf
    cases hf; exact fq1
  have hf := ite_f c15 hf
  rcases Decidable.em (nrm x1 = 10) with c16 | c16
  · have hf := ite_t c16 hf
    cases hf; exact fq1
  have hf := ite_f c16 hf
  rcases Decidable.em (nrm x1 = 11) with c17 | c17
  · have hf := ite_t c17 hf
    cases hf; exact fq1
  have hf := ite_f c17 hf
  cases hf; exact fq1
theorem frc_J1_canEncode_9a6ad {x0 : Int} {μ μ' : Mem} {r : Int} (hf : f_J1_canEncode_9a6ad x0 μ = some (r, μ')) : FrC μ μ' := by
  unfold f_J1_canEncode_9a6ad at hf
  rcases Decidable.em (nrm x0 < 0) with c1 | c1
  · have hf := ite_t c1 hf
    cases hf; exact frc_rf
  · have hf := ite_f c1 hf
    rcases Decidable.em (nrm 255 < nrm x0) with c2 | c2
    · have hf := ite_t c2 hf
      cases hf; exact frc_rf
    · have hf := ite_f c2 hf
      cases hf; exact frc_rf
