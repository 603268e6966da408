theorem isPerson_eq {p : Int} {ρ : Mem} (P0 : 0 ≤ ρ 112 3) (P8 : ρ 112 3 ≤ 8) : f_X12_isPerson 111 p ρ = some (if 0 ≤ nrl p ∧ nrl p < ρ 112 3 then 1 else 0, ρ) := by
  unfold f_X12_isPerson
  rw [bn_eq (within_eq ρ), show (111 + 1 : Int) = 112 from rfl, nrm_id (z := ρ 112 3 - 1) (by omega) (by omega), show nrl 0 = 0 from rfl, nrl_id (z := ρ 112 3 - 1) (by omega) (by omega)]
  by_cases g : 0 ≤ nrl p ∧ nrl p < ρ 112 3
  · rw [if_pos (by omega : 0 ≤ nrl p ∧ nrl p ≤ ρ 112 3 - 1), if_pos g, gd_pos (.inr rfl)]
  · rw [if_neg (by omega : ¬ (0 ≤ nrl p ∧ nrl p ≤ ρ 112 3 - 1)), if_neg g, gd_pos (.inl rfl)]
theorem now_P {μ ρ : Mem} {C : Int} (h : JR μ C ρ) : μ (μ C 0) 2 = ρ 112 3 ∧ 0 ≤ ρ 112 3 ∧ ρ 112 3 ≤ 8 ∧ ρ 112 65 < 2 ^ (ρ 112 3).toNat := by
  obtain ⟨hL, hR, hK⟩ := h
  obtain ⟨_, _, ⟨p1, p2, p3⟩, _⟩ := hR
  obtain ⟨_, _, ⟨_, _, b⟩, _, _⟩ := CR_55.mp hK
  rw [rowA_0] at p1 p2 p3
  exact ⟨p1, p2, p3, b⟩
theorem tryTurning_eq {μ ρ : Mem} {C p : Int} (h : JR μ C ρ) (hn : nrm p = p) :
    f_X0_tryTurning C p μ = some (if 0 ≤ p ∧ p < ρ 112 3 then 0 else 1, if 0 ≤ p ∧ p < ρ 112 3 then ms μ C 3 (jxor (ρ 112 65) (jshl 1 p)) else μ) := by
  obtain ⟨hL, hR, hK, _, _, _, hl, _, _, ⟨b1, b2, b3⟩, _⟩ := now_is h
  obtain ⟨p1, p2, p3, _⟩ := now_P h
  have hk := isL_k hL
  unfold f_X0_tryTurning
  rw [hn]
  by_cases a : p < 0
  · rw [if_pos a, if_neg (by omega), if_neg (by omega)]
  · rw [if_neg a, gd_pos hk, p1, nrm_id (z := ρ 112 3) (by omega) (by omega)]
    by_cases g : p < ρ 112 3
    · rw [if_pos g, nm_eq, if_pos (by omega : 0 ≤ p ∧ p < ρ 112 3), if_pos (by omega : 0 ≤ p ∧ p < ρ 112 3), b1]
    · rw [if_neg g, if_neg (by omega), if_neg (by omega)]
theorem back_new {μ ρ : Mem} {C b : Int} (hC : C = 58 ∨ C = 60) (h : JR μ C ρ) (b0 : 0 ≤ b) (b1 : b < 2 ^ (ρ 112 3).toNat) :
    JR (ms μ C 3 b) C (ms ρ 112 65 b) ∧ ScD C (μ C 0) μ (ms μ C 3 b) ∧ DcS ρ (ms ρ 112 65 b) := by
  obtain ⟨hL, hR, hK⟩ := h
  have h : JR μ C ρ := ⟨hL, hR, hK⟩
  have s1 : ScD C (μ C 0) μ (ms μ C 3 b) := ⟨fun c i _ _ _ e4 _ => ms_nc e4, ms_ni (by decide)⟩
  have t1 : DcS ρ (ms ρ 112 65 b) := fun c i _ _ e => by rw [ms_at, if_neg (by omega)]
  refine ⟨JR_new hC h s1 (DcS_R t1) ?_, s1, t1⟩
  obtain ⟨k1, k2, k3, k4, k5⟩ := CR_55.mp hK
  have L9 := LR_2 hR
  rw [rowA_0] at L9
  refine CR_55.mpr ⟨?_, ?_, ?_, ?_, ?_⟩
  · simp (disch := omega) only [ms_ni]; exact k1
  · simp (disch := omega) only [ms_ni]; exact k2
  · simp (disch := omega) only [ms_ni, ms_eq]; exact ⟨trivial, b0, b1⟩
  · simp (disch := omega) only [ms_ni]; exact k4
  · intro j j0 j1
    rw [ms_ni (by omega)] at j1
    rw [ms_nc (by omega), ms_ni (by omega)]
    exact k5 j j0 j1
theorem rain_new {μ ρ : Mem} {C b : Int} (hC : C = 58 ∨ C = 60) (h : JR μ C ρ) (b0 : 0 ≤ b) (b1 : b ≤ 9) :
    JR (ms μ C 2 b) C (ms ρ 112 66 b) ∧ ScD C (μ C 0) μ (ms μ C 2 b) ∧ DcS ρ (ms ρ 112 66 b) := by
  obtain ⟨hL, hR, hK⟩ := h
  have h : JR μ C ρ := ⟨hL, hR, hK⟩
  have s1 : ScD C (μ C 0) μ (ms μ C 2 b) := ⟨fun c i _ _ _ e4 _ => ms_nc e4, ms_ni (by decide)⟩
  have t1 : DcS ρ (ms ρ 112 66 b) := fun c i _ _ e => by rw [ms_at, if_neg (by omega)]
  refine ⟨JR_new hC h s1 (DcS_R t1) ?_, s1, t1⟩
  obtain ⟨k1, k2, k3, k4, k5⟩ := CR_55.mp hK
  have L9 := LR_2 hR
  rw [rowA_0] at L9
  refine CR_55.mpr ⟨?_, ?_, ?_, ?_, ?_⟩
  · simp (disch := omega) only [ms_ni]; exact k1
  · simp (disch := omega) only [ms_ni, ms_eq]; exact ⟨trivial, b0, b1⟩
  · simp (disch := omega) only [ms_ni]; exact k3
  · simp (disch := omega) only [ms_ni]; exact k4
  · intro j j0 j1
    rw [ms_ni (by omega)] at j1
    rw [ms_nc (by omega), ms_ni (by omega)]
    exact k5 j j0 j1
/-- Who has turned back behind a season: from the person p on, d of them left. -/
def seaU (A : Int → Int) (cnt : Int) : Nat → Int → Int → Int
  | 0, _, x => x
  | d + 1, p, x => seaU A cnt d (p + 1) (if cnt < A (47 + p) then x else jor x (jshl 1 p))
def seaM (A : Int → Int) (b : Int) : Int := seaU A (boM b) (A 3).toNat 0 b
theorem seaU_in {A : Int → Int} {cnt : Int} {n : Nat} (hn : n ≤ 8) : ∀ (d : Nat) (p x : Int), 0 ≤ p → p + d ≤ n → 0 ≤ x → x < 2 ^ n → 0 ≤ seaU A cnt d p x ∧ seaU A cnt d p x < 2 ^ n := by
  have hp : (2 : Int) ^ n ≤ 256 := by
    have := pow_back (P := n) (by omega) (by omega)
    simpa using this
  intro d
  induction d with
  | zero => intro p x _ _ h1 h2; exact ⟨h1, h2⟩
  | succ d ih =>
    intro p x p0 pd h1 h2
    unfold seaU
    by_cases g : cnt < A (47 + p)
    · rw [if_pos g]; exact ih (p + 1) x (by omega) (by omega) h1 h2
    · rw [if_neg g]
      obtain ⟨j1, _, j3⟩ := jor_tb (x := x) (k := p) h1 (by omega) p0 (by omega)
      exact ih (p + 1) _ (by omega) (by omega) j1 (j3 n h2 (by omega))
theorem season_c {La cnt : Int} {A : Int → Int} {μ : Mem} (h : LR μ La A) (hc : nrm cnt = cnt) : ∀ (d n : Nat) (p x : Int), 0 ≤ p → p + d = A 3 → d < n → f_X3_backBehindSeason_w10 n La cnt x p μ = some (seaU A cnt d p x, μ) := by
  obtain ⟨_, _, ⟨g1, g2, g3⟩, _, _, _, g6, _⟩ := h
  intro d
  induction d with
  | zero =>
    intro n p x p0 pd hn
    obtain ⟨n, rfl⟩ : ∃ m, n = m + 1 := ⟨n - 1, by omega⟩
    rw [f_X3_backBehindSeason_w10, g1, nrm_id (z := A 3) (by omega) (by omega), nrm_id (z := p) (by omega) (by omega), if_pos (by omega)]
    rfl
  | succ d ih =>
    intro n p x p0 pd hn
    obtain ⟨n, rfl⟩ : ∃ m, n = m + 1 := ⟨n - 1, by omega⟩
    obtain ⟨t1, t2, t3⟩ := g6 p p0 (by omega)
    rw [f_X3_backBehindSeason_w10, g1, nrm_id (z := A 3) (by omega) (by omega), nrm_id (z := p) (by omega) (by omega), if_neg (by omega), if_neg (by show ¬ ((8 : Int) ≤ p); omega), gd_pos (by omega), t1, hc, nrm_id (z := A (47 + p)) (by omega) (by omega)]
    unfold seaU f_X3_backBehindSeason_j44
    by_cases g : cnt < A (47 + p)
    · rw [if_pos g, if_pos g]; exact ih n (p + 1) x (by omega) (by omega) (by omega)
    · rw [if_neg g, if_neg g, nm_eq]; exact ih n (p + 1) _ (by omega) (by omega) (by omega)
theorem backBehind_eq {La b : Int} {A : Int → Int} {μ : Mem} (h : LR μ La A) (b0 : 0 ≤ b) (b1 : b < 512) : f_X3_backBehindSeason La b μ = some (seaM A b, μ) := by
  obtain ⟨q1, q2, q3⟩ := bits_eq b0 b1
  unfold f_X3_backBehindSeason seaM
  rw [bn_eq (bitCount_eq _ _), q1]
  have h3 := h.2.2.1
  exact season_c h (nrm_id (by omega) (by omega)) (A 3).toNat FU 0 b (by omega) (by omega) (by unfold FU; omega)
theorem season_m {La b : Int} {μ ρ : Mem} (h : LR μ La (rowA ρ 0)) (b0 : 0 ≤ b) (b1 : b < 512) : ∀ (d n : Nat) (p x : Int), 0 ≤ p → p + d = ρ 112 3 → d < n → 0 ≤ x → x < 2 ^ (ρ 112 3).toNat → f_X12_seasonTo_w4 n 111 b x p ρ = some (seaU (rowA ρ 0) (boM b) d p x, ρ) := by
  obtain ⟨_, _, ⟨g1, g2, g3⟩, _, _, _, g6, _⟩ := h
  rw [rowA_0] at g1 g2 g3
  obtain ⟨q1, q2, q3⟩ := bits_eq b0 b1
  have hp := pow_back g2 g3
  intro d
  induction d with
  | zero =>
    intro n p x p0 pd hn x0 x1
    obtain ⟨n, rfl⟩ : ∃ m, n = m + 1 := ⟨n - 1, by omega⟩
    rw [f_X12_seasonTo_w4, show (111 + 1 : Int) = 112 from rfl, nrm_id (z := ρ 112 3) (by omega) (by omega), nrm_id (z := p) (by omega) (by omega), if_pos (by omega)]
    rfl
  | succ d ih =>
    intro n p x p0 pd hn x0 x1
    obtain ⟨n, rfl⟩ : ∃ m, n = m + 1 := ⟨n - 1, by omega⟩
    obtain ⟨t1, t2, t3⟩ := g6 p p0 (by rw [rowA_0]; omega)
    rw [rowA_0] at t1 t2 t3
    rw [f_X12_seasonTo_w4, show (111 + 1 : Int) = 112 from rfl, nrm_id (z := ρ 112 3) (by omega) (by omega), nrm_id (z := p) (by omega) (by omega), if_neg (by omega), bn_eq (bitsOf_eq _ _), nrm_id (z := 47 + p) (by omega) (by omega), gd_pos (by omega), nrm_id (z := boM b) (by omega) (by omega), nrm_id (z := ρ 112 (47 + p)) (by omega) (by omega)]
    unfold seaU f_X12_seasonTo_j38
    rw [rowA_0, nm_eq, nm_eq]
    by_cases g : boM b < ρ 112 (47 + p)
    · rw [if_pos g, if_pos g, jor_0 x0 (by omega)]; exact ih n (p + 1) x (by omega) (by omega) (by omega) x0 x1
    · rw [if_neg g, if_neg g]
      obtain ⟨j1, _, j3⟩ := jor_tb (x := x) (k := p) x0 (by omega) p0 (by omega)
      exact ih n (p + 1) _ (by omega) (by omega) (by omega) j1 (j3 _ x1 (by omega))
theorem seasonTo_eq {La b : Int} {μ ρ : Mem} (h : LR μ La (rowA ρ 0)) (b0 : 0 ≤ b) (b1 : b < 2 ^ (ρ 112 3).toNat) : f_X12_seasonTo 111 b ρ = some (seaM (rowA ρ 0) b, ρ) := by
  have h3 := h.2.2.1
  rw [rowA_0] at h3
  have hp := pow_back h3.2.1 h3.2.2
  unfold f_X12_seasonTo seaM
  rw [rowA_0]
  exact season_m h b0 (by omega) (ρ 112 3).toNat FU 0 b (by omega) (by omega) (by unfold FU; omega) b0 b1
theorem seaM_in {A : Int → Int} {b : Int} (p0 : 0 ≤ A 3) (p8 : A 3 ≤ 8) (b0 : 0 ≤ b) (b1 : b < 2 ^ (A 3).toNat) : 0 ≤ seaM A b ∧ seaM A b < 2 ^ (A 3).toNat := by
  unfold seaM
  exact seaU_in (by omega) (A 3).toNat 0 b (by omega) (by omega) b0 b1
theorem within_l {a b c : Int} (μ : Mem) (ha : nrl a = a) (hb : nrl b = b) (hc : nrl c = c) : f_X12_within a b c μ = some (if b ≤ a ∧ a ≤ c then 1 else 0, μ) := by
  rw [within_eq, ha, hb, hc]
theorem whyM_in {A : Int → Int} {l : Int} : 0 ≤ whyM A l ∧ whyM A l ≤ 3 := by
  unfold whyM
  split
  · split
    · omega
    · split <;> omega
  · omega
theorem rutM_in {A : Int → Int} {l m : Int} : 0 ≤ rutM A l m ∧ rutM A l m ≤ 3 := by
  unfold rutM
  split
  · split <;> omega
  · omega
theorem whyM_0 {A : Int → Int} {l : Int} (h : whyM A l = 0) : 0 ≤ l ∧ l < A 2 ∧ oeM A l (A 55) ≠ -1 ∧ mayM A l (A (56 + l)) (A 66) (A 65) ≠ 0 := by
  unfold whyM at h
  by_cases g : 0 ≤ l ∧ l < A 2
  · rw [if_pos g] at h
    by_cases z : oeM A l (A 55) = -1
    · rw [if_pos z] at h; omega
    · rw [if_neg z] at h
      by_cases y : mayM A l (A (56 + l)) (A 66) (A 65) = 0
      · rw [if_pos y] at h; omega
      · exact ⟨g.1, g.2, z, y⟩
  · rw [if_neg g] at h; omega
theorem whyNo_go {μ ρ : Mem} {l C : Int} (hC : C = 58 ∨ C = 60) (kc : isK C 0) (h : JR μ C ρ) (hn : nrm l = l) :
    ∃ μ1 ρ1, f_X0_whyNoGoing C l μ = some (whyM (rowA ρ 0) l, μ1) ∧ f_X12_whyGo 111 l ρ = some (whyM (rowA ρ 0) l, ρ1) ∧ ScD C (μ C 0) μ μ1 ∧ ScW ρ ρ1 ∧ JR μ1 C ρ1 ∧ (whyM (rowA ρ 0) l = 0 →
      ∃ μ2 ρ2, f_X0_goBy C l μ1 = some (0, μ2) ∧ f_X12_goes 111 l ρ1 = some (0, ρ2) ∧ JR μ2 C ρ2 ∧ ScD C (μ C 0) μ μ2 ∧ DcS ρ1 ρ2) := by
  have hl : nrl l = l := by rw [← hn, nrl_nrm]
  obtain ⟨μ1, p1, p2⟩ := whyNo_c kc h hn
  obtain ⟨ρ1, q1, q2⟩ := whyGo_m h hl
  obtain ⟨j1, j2⟩ := JR_co hC h p2 q2
  refine ⟨μ1, ρ1, p1, q1, ScD_of hC h.1 p2, q2, j1, ?_⟩
  intro w0
  obtain ⟨w1, w2, w3, w4⟩ := whyM_0 w0
  have e : ∀ i, ρ1 112 i = ρ 112 i := fun i => q2 112 i (by decide) (by decide)
  have eA : rowA ρ1 0 = rowA ρ 0 := rowA_co (ScW_sa q2) 0
  rw [rowA_0] at w2 w3
  obtain ⟨μ2, ρ2, a1, a2, a3, a4, a5⟩ := go_eq hC kc j1 w1 (by rw [e]; exact w2) (by rw [eA, e]; exact w3)
  refine ⟨μ2, ρ2, a1, a2, a3, ?_, a5⟩
  rw [j2] at a4
  exact ScD_tr (ScD_of hC h.1 p2) a4
theorem deed_eq {μ ρ : Mem} {C v : Int} (hC : C = 58 ∨ C = 60) (kc : isK C 0) (h : JR μ C ρ) (hv : nrl v = v) :
    ∃ w μ' ρ1, f_X0_tryDeed C v μ = some (w, μ') ∧ f_X12_whyNot 111 v ρ = some (w, ρ1) ∧ ScW ρ ρ1 ∧ ScD C (μ C 0) μ μ' ∧ (0 ≤ w ∧ w ≤ 3) ∧
      ((w ≠ 0 ∧ JR μ' C ρ1) ∨ (w = 0 ∧ 0 ≤ v ∧ v ≤ 50 ∧ ∃ ρ2, f_X12_does 111 v ρ1 = some (0, ρ2) ∧ DcS ρ1 ρ2 ∧ JR μ' C ρ2)) := by
  obtain ⟨hL, hR, hK, ⟨L0, L9⟩, _, _, _, _, _, ⟨b1, b2, b3⟩, _⟩ := now_is h
  obtain ⟨P1, P2, P3, P4⟩ := now_P h
  have w1 := within_l ρ hv (rfl : nrl 0 = 0) (rfl : nrl 9 = 9)
  have w2 := within_l ρ hv (rfl : nrl 10 = 10) (rfl : nrl 29 = 29)
  have w3 := within_l ρ hv (rfl : nrl 40 = 40) (rfl : nrl 49 = 49)
  have w4 := within_l ρ hv (rfl : nrl 30 = 30) (rfl : nrl 39 = 39)
  have k1 : nrm (kcmp v 0) < 0 ↔ v < 0 := by rw [kcmp_neg, hv]; rfl
  have k2 : nrm (kcmp v 50) ≤ 0 ↔ v ≤ 50 := by
    have := kcmp_pos (a := v) (b := 50)
    rw [hv, show nrl 50 = 50 from rfl] at this
    omega
  have k3 : nrm (kcmp v 50) = 0 ↔ v = 50 := by rw [kcmp_zero, hv]; rfl
  have k4 : 0 ≤ nrm (kcmp v 20) ↔ 20 ≤ v := by
    have := kcmp_neg (a := v) (b := 20)
    rw [hv, show nrl 20 = 20 from rfl] at this
    omega
  by_cases g : 0 ≤ v ∧ v ≤ 50
  · obtain ⟨v0, v50⟩ := g
    have r1 : krem v 10 = v % 10 := krem_nn v0 (by omega) (by decide) (by decide)
    have r2 : nrm (v % 10) = v % 10 := nrm_id (by omega) (by omega)
    have r3 : nrm (v - v % 10) = v - v % 10 := nrm_id (by omega) (by omega)
    unfold f_X0_tryDeed f_X12_whyNot
    rw [if_neg (fun q => absurd (k1.mp q) (by omega)), if_pos (k2.mpr v50), nm_eq, r1, r2, r3, bn_eq w1]
    by_cases c1 : v ≤ 9
    · rw [if_pos (by omega : v - v % 10 = 0), if_pos (by omega : 0 ≤ v ∧ v ≤ 9), if_neg (by decide : ¬ nrm 1 = 0), show v % 10 = v by omega]
      obtain ⟨μ1, ρ1, a1, a2, a3, a4, a5, a6⟩ := whyNo_go hC kc h (nrm_id (z := v) (by omega) (by omega))
      have wi := whyM_in (A := rowA ρ 0) (l := v)
      rw [bn_eq a1, bn_eq a2, nrm_id (z := whyM (rowA ρ 0) v) (by omega) (by omega)]
      by_cases z : whyM (rowA ρ 0) v = 0
      · obtain ⟨μ2, ρ2, d1, d2, d3, d4, d5⟩ := a6 z
        rw [if_pos z, bn_eq d1]
        refine ⟨_, μ2, ρ1, rfl, rfl, a4, d4, wi, .inr ⟨z, v0, v50, ρ2, ?_, d5, d3⟩⟩
        unfold f_X12_does
        rw [nrm_id (z := v) (by omega) (by omega), if_neg (by show ¬ ((10 : Int) ≤ v); omega), bn_eq d2]
      · rw [if_neg z]
        exact ⟨_, μ1, ρ1, rfl, rfl, a4, a3, wi, .inl ⟨z, a5⟩⟩
    · rw [if_neg (by omega : ¬ v - v % 10 = 0), if_neg (by omega : ¬ (0 ≤ v ∧ v ≤ 9)), if_pos (by decide : nrm 0 = 0), bn_eq w2]
      have rut : ∀ m, (m = 1 ∨ m = -1) → 10 ≤ v → v < 30 → (m = 1 ↔ 20 ≤ v) →
          ∃ w μ' ρ1, f_X0_tryDepth C (v % 10) m μ = some (w, μ') ∧ f_X12_whyNot_j49 111 (v % 10) m ρ = some (w, ρ1) ∧ ScW ρ ρ1 ∧ ScD C (μ C 0) μ μ' ∧ (0 ≤ w ∧ w ≤ 3) ∧
          ((w ≠ 0 ∧ JR μ' C ρ1) ∨ (w = 0 ∧ 0 ≤ v ∧ v ≤ 50 ∧ ∃ ρ2, f_X12_does 111 v ρ1 = some (0, ρ2) ∧ DcS ρ1 ρ2 ∧ JR μ' C ρ2)) := by
        intro m hm x1 x2 x3
        refine ⟨_, _, ρ, tryDepth_eq hC h r2 hm, ?_, ScW_rf, ?_, rutM_in, ?_⟩
        · unfold f_X12_whyNot_j49
          rw [gd_pos (by decide), bn_eq (whyRut_eq h (nrl_id (by omega) (by omega)) hm)]
        · by_cases z : rutM (rowA ρ 0) (v % 10) m = 0
          · rw [if_pos z]; exact (rut_new hC h hm z).2.1
          · rw [if_neg z]; exact ScD_rf
        · by_cases z : rutM (rowA ρ 0) (v % 10) m = 0
          · rw [if_pos z]
            obtain ⟨n1, n2, n3⟩ := rut_new hC h hm z
            refine .inr ⟨z, v0, v50, _, ?_, n3, n1⟩
            unfold f_X12_does
            rw [nrm_id (z := v) (by omega) (by omega), if_pos (by show (10 : Int) ≤ v; omega), if_neg (by show ¬ ((30 : Int) ≤ v); omega), jrem_nn (by omega) (by omega) (by decide) (by decide), nrm_id (z := 56 + v % 10) (by omega) (by omega), gd_pos (by omega), show nrm 20 = 20 from rfl]
            unfold f_X12_does_j44
            simp only [Int.reduceAdd]
            rw [nrm_id (z := 56 + v % 10) (by omega) (by omega), gd_pos ⟨by decide, by omega, by show _ < (3300 : Int); omega⟩, gd_pos ⟨by decide, by omega, by show _ < (3300 : Int); omega⟩, nm_eq, nm_eq]
            rcases hm with e | e
            · subst e; rw [if_pos (x3.mp rfl)]
            · subst e; rw [if_neg (fun q => absurd (x3.mpr q) (by decide))]
          · rw [if_neg z]
            exact .inl ⟨z, h⟩
      have bnid : ∀ o : Option (Int × Mem), (bn o fun r m => some (r, m)) = o := by
        intro o
        cases o with
        | none => rfl
        | some q => rfl
      by_cases c2 : v ≤ 19
      · rw [if_pos (by omega : v - v % 10 = 10), if_pos (by omega : 10 ≤ v ∧ v ≤ 29), if_neg (by decide : ¬ nrm 1 = 0), if_neg (fun q => absurd (k4.mp q) (by omega)), bnid]
        exact rut (-1) (.inr rfl) (by omega) (by omega) ⟨fun q => absurd q (by decide), fun q => absurd q (by omega)⟩
      · rw [if_neg (by omega : ¬ v - v % 10 = 10)]
        by_cases c3 : v ≤ 29
        · rw [if_pos (by omega : v - v % 10 = 20), if_pos (by omega : 10 ≤ v ∧ v ≤ 29), if_neg (by decide : ¬ nrm 1 = 0), if_pos (k4.mpr (by omega)), bnid]
          exact rut 1 (.inl rfl) (by omega) (by omega) ⟨fun _ => by omega, fun _ => rfl⟩
        · rw [if_neg (by omega : ¬ v - v % 10 = 20), if_neg (by omega : ¬ (10 ≤ v ∧ v ≤ 29)), if_pos (by decide : nrm 0 = 0), bn_eq w3]
          by_cases c4 : v ≤ 39
          · rw [if_pos (by omega : v - v % 10 = 30), nm_eq, if_neg (by omega : ¬ (40 ≤ v ∧ v ≤ 49)), if_pos (by decide : nrm 0 = 0), bn_eq w4, if_pos (by omega : 30 ≤ v ∧ v ≤ 39), if_neg (by decide : ¬ nrm 1 = 0)]
            obtain ⟨n1, n2, n3⟩ := rain_new (b := v % 10) hC h (by omega) (by omega)
            refine ⟨0, _, ρ, rfl, rfl, ScW_rf, n2, by omega, .inr ⟨rfl, v0, v50, _, ?_, n3, n1⟩⟩
            unfold f_X12_does
            simp only [Int.reduceAdd]
            rw [nrm_id (z := v) (by omega) (by omega), if_pos (by show (10 : Int) ≤ v; omega), if_pos (by show (30 : Int) ≤ v; omega), if_neg (by show ¬ ((40 : Int) ≤ v); omega), nm_eq, show v - 30 = v % 10 by omega]
          · rw [if_neg (by omega : ¬ v - v % 10 = 30)]
            by_cases c5 : v ≤ 49
            · rw [if_pos (by omega : v - v % 10 = 40), if_pos (by omega : 40 ≤ v ∧ v ≤ 49), if_neg (by decide : ¬ nrm 1 = 0), bnid, tryTurning_eq h r2, bn_eq (isPerson_eq P2 P3), nrl_id (z := v - 40) (by omega) (by omega), show v - 40 = v % 10 by omega]
              by_cases z : 0 ≤ v % 10 ∧ v % 10 < ρ 112 3
              · rw [if_pos z, if_pos z, if_pos z, if_neg (by decide : ¬ nrm 1 = 0)]
                have hp := pow_back P2 P3
                obtain ⟨x1, x2⟩ := jxor_tb (x := ρ 112 65) (k := v % 10) b2 (by omega) z.1 (by omega)
                obtain ⟨n1, n2, n3⟩ := back_new (b := jxor (ρ 112 65) (jshl 1 (v % 10))) hC h x1 (x2 _ P4 (by omega))
                refine ⟨0, _, ρ, rfl, rfl, ScW_rf, n2, by omega, .inr ⟨rfl, v0, v50, _, ?_, n3, n1⟩⟩
                unfold f_X12_does
                simp only [Int.reduceAdd]
                rw [nrm_id (z := v) (by omega) (by omega), if_pos (by show (10 : Int) ≤ v; omega), if_pos (by show (30 : Int) ≤ v; omega), if_pos (by show (40 : Int) ≤ v; omega), if_neg (by show ¬ ((50 : Int) ≤ v); omega), nm_eq, show v - 40 = v % 10 by omega]
              · rw [if_neg z, if_neg z, if_neg z, if_pos (by decide : nrm 0 = 0)]
                exact ⟨1, μ, ρ, rfl, rfl, ScW_rf, ScD_rf, by omega, .inl ⟨by decide, h⟩⟩
            · have e50 : v = 50 := by omega
              rw [if_neg (by omega : ¬ v - v % 10 = 40), gd_pos (isL_k hL), b1, bn_eq (backBehind_eq hR b2 b3), nm_eq, if_neg (by omega : ¬ (40 ≤ v ∧ v ≤ 49)), if_pos (by decide : nrm 0 = 0), bn_eq w4, if_neg (by omega : ¬ (30 ≤ v ∧ v ≤ 39)), if_pos (by decide : nrm 0 = 0), if_pos (k3.mpr e50)]
              have si := seaM_in (A := rowA ρ 0) (b := ρ 112 65) (by rw [rowA_0]; exact P2) (by rw [rowA_0]; exact P3) b2 (by rw [rowA_0]; exact P4)
              rw [rowA_0] at si
              obtain ⟨n1, n2, n3⟩ := back_new (b := seaM (rowA ρ 0) (ρ 112 65)) hC h si.1 si.2
              refine ⟨0, _, ρ, rfl, rfl, ScW_rf, n2, by omega, .inr ⟨rfl, v0, v50, _, ?_, n3, n1⟩⟩
              unfold f_X12_does
              simp only [Int.reduceAdd]
              rw [nrm_id (z := v) (by omega) (by omega), if_pos (by show (10 : Int) ≤ v; omega), if_pos (by show (30 : Int) ≤ v; omega), if_pos (by show (40 : Int) ≤ v; omega), if_pos (by show (50 : Int) ≤ v; omega), bn_eq (seasonTo_eq hR b2 P4), nm_eq]
  · refine ⟨1, μ, ρ, ?_, ?_, ScW_rf, ScD_rf, by omega, .inl ⟨by decide, h⟩⟩
    · unfold f_X0_tryDeed
      by_cases v0 : v < 0
      · rw [if_pos (k1.mpr v0)]
      · rw [if_neg (fun q => v0 (k1.mp q)), if_neg (fun q => absurd (k2.mp q) (by omega))]
    · unfold f_X12_whyNot
      rw [bn_eq w1, if_neg (by omega : ¬ (0 ≤ v ∧ v ≤ 9)), if_pos (by decide : nrm 0 = 0), bn_eq w2, if_neg (by omega : ¬ (10 ≤ v ∧ v ≤ 29)), if_pos (by decide : nrm 0 = 0), bn_eq w3, if_neg (by omega : ¬ (40 ≤ v ∧ v ≤ 49)), if_pos (by decide : nrm 0 = 0), bn_eq w4, if_neg (by omega : ¬ (30 ≤ v ∧ v ≤ 39)), if_pos (by decide : nrm 0 = 0), if_neg (fun q => absurd (k3.mp q) (by omega))]
