theorem nrm_to (x : Int32) : nrm x.toInt = x.toInt := by
  unfold nrm
  rw [jI_to]
theorem nrm_jand (a b : Int) : nrm (jand a b) = jand a b := nrm_to _
theorem pow_cast (n : Nat) : ((2 ^ n : Nat) : Int) = (2 : Int) ^ n := by simp
theorem jor_tb2 {x y : Int} (x0 : 0 ≤ x) (x1 : x < 2147483648) (y0 : 0 ≤ y) (y1 : y < 2147483648) : 0 ≤ jor x y ∧ (∀ j, 0 ≤ j → tb (jor x y) j = (tb x j || tb y j)) ∧ (∀ n : Nat, x < 2 ^ n → y < 2 ^ n → jor x y < 2 ^ n) := by
  have e : jor x y = ((x.toNat ||| y.toNat : Nat) : Int) := by
    have a := jor_n x.toNat y.toNat (by omega) (by omega)
    rw [Int.toNat_of_nonneg x0, Int.toNat_of_nonneg y0] at a
    exact a
  rw [e]
  refine ⟨by omega, ?_, ?_⟩
  · intro j j0
    unfold tb
    rw [Int.toNat_natCast, Nat.testBit_or]
  · intro n h1 h2
    have hp := pow_cast n
    have c := Nat.or_lt_two_pow (x := x.toNat) (y := y.toNat) (n := n) (by omega) (by omega)
    omega
theorem jand_tb2 {x y : Int} (x0 : 0 ≤ x) (x1 : x < 2147483648) (y0 : 0 ≤ y) (y1 : y < 2147483648) : 0 ≤ jand x y ∧ jand x y ≤ x ∧ (∀ j, 0 ≤ j → tb (jand x y) j = (tb x j && tb y j)) := by
  have e : jand x y = ((x.toNat &&& y.toNat : Nat) : Int) := by
    have a := jand_n x.toNat y.toNat (by omega) (by omega)
    rw [Int.toNat_of_nonneg x0, Int.toNat_of_nonneg y0] at a
    exact a
  rw [e]
  have := Nat.and_le_left (n := x.toNat) (m := y.toNat)
  refine ⟨by omega, by omega, ?_⟩
  intro j j0
  unfold tb
  rw [Int.toNat_natCast, Nat.testBit_and]
theorem sumTo_le {f g : Int → Int} : ∀ {d : Nat}, (∀ j : Int, 0 ≤ j → j < d → f j ≤ g j) → sumTo f d ≤ sumTo g d
  | 0, _ => Int.le_refl _
  | d + 1, h => by
    have a := sumTo_le (f := f) (g := g) (d := d) (fun j h1 h2 => h j h1 (by omega))
    have b := h d (by omega) (by omega)
    unfold sumTo
    omega
theorem sumTo_lt {f g : Int → Int} : ∀ {d : Nat}, (∀ j : Int, 0 ≤ j → j < d → f j ≤ g j) → (∃ j : Int, 0 ≤ j ∧ j < d ∧ f j < g j) → sumTo f d < sumTo g d
  | 0, _, ⟨j, h1, h2, _⟩ => by omega
  | d + 1, h, ⟨j, h1, h2, h3⟩ => by
    have a := sumTo_le (f := f) (g := g) (d := d) (fun j h1 h2 => h j h1 (by omega))
    have b := h d (by omega) (by omega)
    unfold sumTo
    by_cases e : j = d
    · subst e; omega
    · have c := sumTo_lt (f := f) (g := g) (d := d) (fun j h1 h2 => h j h1 (by omega)) ⟨j, h1, by omega, h3⟩
      omega
theorem sumTo_top {f : Int → Int} {P : Nat} (h1 : ∀ j : Int, 0 ≤ j → f j ≤ 1) (h2 : ∀ j : Int, (P : Int) ≤ j → f j = 0) : ∀ d : Nat, sumTo f d ≤ d ∧ sumTo f d ≤ P
  | 0 => ⟨Int.le_refl _, by show (0 : Int) ≤ P; omega⟩
  | d + 1 => by
    obtain ⟨a, b⟩ := sumTo_top h1 h2 d
    have c := h1 d (by omega)
    unfold sumTo
    by_cases e : (P : Int) ≤ d
    · have := h2 d e
      omega
    · omega
theorem bo_tb {z : Int} (z0 : 0 ≤ z) (z1 : z < 512) : boM z = sumTo (fun k => if tb z k then 1 else 0) 9 := by
  unfold boM
  apply sumTo_cg
  intro j j0 j1
  exact jbit z0 (by omega) j0 (by omega)
theorem bo_le {x y : Int} (x0 : 0 ≤ x) (x1 : x < 512) (y0 : 0 ≤ y) (y1 : y < 512) (h : ∀ j, 0 ≤ j → tb x j = true → tb y j = true) : boM x ≤ boM y := by
  rw [bo_tb x0 x1, bo_tb y0 y1]
  apply sumTo_le
  intro j j0 j1
  by_cases e : tb x j = true
  · rw [if_pos e, if_pos (h j j0 e)]; exact Int.le_refl _
  · rw [if_neg e]; split <;> decide
theorem bo_lt {x y : Int} (x0 : 0 ≤ x) (x1 : x < 512) (y0 : 0 ≤ y) (y1 : y < 512) (h : ∀ j, 0 ≤ j → tb x j = true → tb y j = true) (hn : x ≠ y) : boM x < boM y := by
  rw [bo_tb x0 x1, bo_tb y0 y1]
  apply sumTo_lt
  · intro j j0 j1
    by_cases e : tb x j = true
    · rw [if_pos e, if_pos (h j j0 e)]; exact Int.le_refl _
    · rw [if_neg e]; split <;> decide
  · apply Classical.byContradiction
    intro hc
    apply hn
    apply tb_ext x0 y0
    intro k k0
    by_cases k9 : k < 9
    · by_cases e : tb x k = true
      · rw [e, h k k0 e]
      · by_cases e2 : tb y k = true
        · exact absurd ⟨k, k0, k9, by rw [if_neg e, if_pos e2]; decide⟩ hc
        · rw [Bool.not_eq_true] at e e2; rw [e, e2]
    · rw [tb_hi (n := 9) (by omega) (by omega), tb_hi (n := 9) (by omega) (by omega)]
theorem bo_P {z : Int} {P : Nat} (hP : P ≤ 8) (z0 : 0 ≤ z) (z1 : z < 2 ^ P) : boM z ≤ P := by
  have hp : (2 : Int) ^ P ≤ 256 := by
    have := pow_back (P := P) (by omega) (by omega)
    simpa using this
  rw [bo_tb z0 (by omega)]
  refine (sumTo_top (P := P) ?_ ?_ 9).2
  · intro j _; split <;> decide
  · intro j hj; rw [tb_hi z1 hj]; rfl
theorem seaU_tb {A : Int → Int} {cnt : Int} {n : Nat} (hn : n ≤ 8) {j : Int} (j0 : 0 ≤ j) : ∀ (d : Nat) (p x : Int), 0 ≤ p → p + d ≤ n → 0 ≤ x → x < 2 ^ n → tb (seaU A cnt d p x) j = (tb x j || decide (p ≤ j ∧ j < p + d ∧ A (47 + j) ≤ cnt)) := by
  have hp : (2 : Int) ^ n ≤ 256 := by
    have := pow_back (P := n) (by omega) (by omega)
    simpa using this
  intro d
  induction d with
  | zero =>
    intro p x _ _ h1 h2
    unfold seaU
    rw [decide_eq_false (by omega), Bool.or_false]
  | succ d ih =>
    intro p x p0 pd h1 h2
    unfold seaU
    by_cases g : cnt < A (47 + p)
    · rw [if_pos g, ih (p + 1) x (by omega) (by omega) h1 h2]
      congr 1
      apply decide_eq_decide.mpr
      constructor
      · intro q; omega
      · intro q
        by_cases e : j = p
        · subst e; omega
        · omega
    · rw [if_neg g]
      obtain ⟨j1, j2, j3⟩ := jor_tb (x := x) (k := p) h1 (by omega) p0 (by omega)
      rw [ih (p + 1) _ (by omega) (by omega) j1 (j3 n h2 (by omega)), j2 j j0, Bool.or_assoc]
      congr 1
      rw [← Bool.decide_or]
      apply decide_eq_decide.mpr
      constructor
      · intro q
        rcases q with q | q
        · subst q; omega
        · omega
      · intro q
        by_cases e : j = p
        · exact .inl e
        · exact .inr (by omega)
theorem seaM_tb {A : Int → Int} {b j : Int} (p0 : 0 ≤ A 3) (p8 : A 3 ≤ 8) (b0 : 0 ≤ b) (b1 : b < 2 ^ (A 3).toNat) (j0 : 0 ≤ j) : tb (seaM A b) j = (tb b j || decide (j < A 3 ∧ A (47 + j) ≤ boM b)) := by
  unfold seaM
  rw [seaU_tb (n := (A 3).toNat) (by omega) j0 (A 3).toNat 0 b (by omega) (by omega) b0 b1]
  congr 1
  apply decide_eq_decide.mpr
  omega
/-- Who has turned back behind so many seasons. -/
def seaI (A : Int → Int) : Nat → Int → Int
  | 0, b => b
  | n + 1, b => seaM A (seaI A n b)
theorem seaI_in {A : Int → Int} {b : Int} (p0 : 0 ≤ A 3) (p8 : A 3 ≤ 8) (b0 : 0 ≤ b) (b1 : b < 2 ^ (A 3).toNat) : ∀ k, 0 ≤ seaI A k b ∧ seaI A k b < 2 ^ (A 3).toNat
  | 0 => ⟨b0, b1⟩
  | k + 1 => by
    obtain ⟨h1, h2⟩ := seaI_in p0 p8 b0 b1 k
    exact seaM_in p0 p8 h1 h2
theorem sea_fix {A : Int → Int} {b : Int} (p0 : 0 ≤ A 3) (p8 : A 3 ≤ 8) (b0 : 0 ≤ b) (b1 : b < 2 ^ (A 3).toNat) : ∃ t : Nat, t ≤ 8 ∧ seaM A (seaI A t b) = seaI A t b ∧ (∀ k < t, seaM A (seaI A k b) ≠ seaI A k b) := by
  have hp := pow_back p0 p8
  have key : ∀ k : Nat, (∃ t : Nat, t < k ∧ seaM A (seaI A t b) = seaI A t b ∧ (∀ j < t, seaM A (seaI A j b) ≠ seaI A j b)) ∨ ((∀ j < k, seaM A (seaI A j b) ≠ seaI A j b) ∧ (k : Int) ≤ boM (seaI A k b)) := by
    intro k
    induction k with
    | zero =>
      refine .inr ⟨fun j hj => absurd hj (by omega), ?_⟩
      exact (bits_eq b0 (by omega)).2.1
    | succ k ih =>
      rcases ih with ⟨t, h1, h2⟩ | ⟨h1, h2⟩
      · exact .inl ⟨t, by omega, h2⟩
      · obtain ⟨i1, i2⟩ := seaI_in p0 p8 b0 b1 k
        obtain ⟨s1, s2⟩ := seaM_in p0 p8 i1 i2
        by_cases e : seaM A (seaI A k b) = seaI A k b
        · exact .inl ⟨k, by omega, e, h1⟩
        · refine .inr ⟨?_, ?_⟩
          · intro j hj
            by_cases ej : j = k
            · subst ej; exact e
            · exact h1 j (by omega)
          · have := bo_lt i1 (by omega) s1 (by omega) (fun j j0 hj => by rw [seaM_tb p0 p8 i1 i2 j0, hj]; rfl) (Ne.symm e)
            show ((k + 1 : Nat) : Int) ≤ boM (seaM A (seaI A k b))
            omega
  rcases key 9 with ⟨t, h1, h2, h3⟩ | ⟨h1, h2⟩
  · exact ⟨t, by omega, h2, h3⟩
  · obtain ⟨i1, i2⟩ := seaI_in p0 p8 b0 b1 9
    have := bo_P (P := (A 3).toNat) (by omega) i1 i2
    omega
theorem seaI_st {A : Int → Int} {b : Int} {t : Nat} (h : seaM A (seaI A t b) = seaI A t b) : ∀ d, seaI A (t + d) b = seaI A t b
  | 0 => rfl
  | d + 1 => by
    show seaM A (seaI A (t + d) b) = _
    rw [seaI_st h d, h]
theorem endBack_w {La b : Int} {A : Int → Int} {μ : Mem} (h : LR μ La A) (b0 : 0 ≤ b) (b1 : b < 2 ^ (A 3).toNat) : ∀ (d i n : Nat), i + d = 8 → d < n → f_X3_backInTheEnd_w4 n La (seaI A i b) i μ = some (seaI A 8 b, μ) := by
  obtain ⟨p1, p2, p3⟩ := h.2.2.1
  have hp := pow_back p2 p3
  intro d
  induction d with
  | zero =>
    intro i n h1 h2
    obtain ⟨n, rfl⟩ : ∃ m, n = m + 1 := ⟨n - 1, by omega⟩
    obtain rfl : i = 8 := by omega
    rw [f_X3_backInTheEnd_w4, if_pos (by decide)]
  | succ d ih =>
    intro i n h1 h2
    obtain ⟨n, rfl⟩ : ∃ m, n = m + 1 := ⟨n - 1, by omega⟩
    obtain ⟨i1, i2⟩ := seaI_in p2 p3 b0 b1 i
    rw [f_X3_backInTheEnd_w4, nrm_id (z := (i : Int)) (by omega) (by omega), if_neg (by show ¬ ((8 : Int) ≤ i); omega), bn_eq (backBehind_eq h i1 (by omega))]
    have := ih (i + 1) n (by omega) (by omega)
    rw [show ((i + 1 : Nat) : Int) = (i : Int) + 1 by omega] at this
    exact this
theorem endBack_eq {La b : Int} {A : Int → Int} {μ : Mem} (h : LR μ La A) (b0 : 0 ≤ b) (b1 : b < 2 ^ (A 3).toNat) : f_X3_backInTheEnd La b μ = some (seaI A 8 b, μ) :=
  endBack_w h b0 b1 8 0 FU (by omega) (by unfold FU; omega)
theorem sot_w {b : Int} {A : Int → Int} {μ : Mem} {t : Nat} (hL : isL (μ 58 0)) (h : LR μ (μ 58 0) A) (b0 : 0 ≤ b) (b1 : b < 2 ^ (A 3).toNat) (t8 : t ≤ 8) (ht : seaM A (seaI A t b) = seaI A t b) (hm : ∀ k < t, seaM A (seaI A k b) ≠ seaI A k b) : ∀ (d i n : Nat), i + d = t → d < n → f_X11_seasonsOfTurning_w10 n 0 (seaI A i b) i μ = some ((t : Int), μ) := by
  obtain ⟨p1, p2, p3⟩ := h.2.2.1
  have hp := pow_back p2 p3
  intro d
  induction d with
  | zero =>
    intro i n h1 h2
    obtain ⟨n, rfl⟩ : ∃ m, n = m + 1 := ⟨n - 1, by omega⟩
    obtain rfl : i = t := by omega
    obtain ⟨i1, i2⟩ := seaI_in p2 p3 b0 b1 i
    rw [f_X11_seasonsOfTurning_w10, nrm_id (z := (i : Int)) (by omega) (by omega), if_neg (by show ¬ ((8 : Int) < i); omega), show (0 + 58 : Int) = 58 from rfl, gd_pos (isL_k hL), bn_eq (backBehind_eq h i1 (by omega)), ht, if_pos rfl]
  | succ d ih =>
    intro i n h1 h2
    obtain ⟨n, rfl⟩ : ∃ m, n = m + 1 := ⟨n - 1, by omega⟩
    obtain ⟨i1, i2⟩ := seaI_in p2 p3 b0 b1 i
    obtain ⟨s1, s2⟩ := seaM_in p2 p3 i1 i2
    rw [f_X11_seasonsOfTurning_w10, nrm_id (z := (i : Int)) (by omega) (by omega), if_neg (by show ¬ ((8 : Int) < i); omega), show (0 + 58 : Int) = 58 from rfl, gd_pos (isL_k hL), bn_eq (backBehind_eq h i1 (by omega)), nrm_id (z := seaM A (seaI A i b)) (by omega) (by omega), nrm_id (z := seaI A i b) (by omega) (by omega), if_neg (hm i (by omega))]
    have := ih (i + 1) n (by omega) (by omega)
    rw [show ((i + 1 : Nat) : Int) = (i : Int) + 1 by omega] at this
    exact this
def Sc24 (ρ ρ' : Mem) : Prop := ∀ c i, ¬ (c = 111 ∧ i = 24) → ρ' c i = ρ c i
theorem Sc24_sa {ρ ρ' : Mem} (h : Sc24 ρ ρ') : SaR ρ ρ' := by
  intro c i e
  refine h c i ?_
  unfold EssR at e
  omega
theorem LR_24 {μ ρ ρ' : Mem} {La : Int} (s : Sc24 ρ ρ') (h : LR μ La (rowA ρ 0)) : LR μ La (rowA ρ' 0) := by
  rw [rowA_co (Sc24_sa s)]; exact h
theorem turnedTo_w {b La : Int} {A : Int → Int} {μ : Mem} {t : Nat} (b0 : 0 ≤ b) (b1 : b < 2 ^ (A 3).toNat) (p2 : 0 ≤ A 3) (p3 : A 3 ≤ 8) (ht : seaM A (seaI A t b) = seaI A t b) (hm : ∀ k < t, seaM A (seaI A k b) ≠ seaI A k b) : ∀ (d i n : Nat) (ρ : Mem), rowA ρ 0 = A → LR μ La (rowA ρ 0) → i + d = t → d < n → ρ 111 24 = i →
    ∃ ρ', f_X12_turnedTo_w7 n 111 (seaI A i b) ρ = some (seaI A t b, ρ') ∧ ρ' 111 24 = t ∧ Sc24 ρ ρ' := by
  have hp := pow_back p2 p3
  intro d
  induction d with
  | zero =>
    intro i n ρ hA h h1 h2 h3
    obtain ⟨n, rfl⟩ : ∃ m, n = m + 1 := ⟨n - 1, by omega⟩
    obtain rfl : i = t := by omega
    obtain ⟨i1, i2⟩ := seaI_in p2 p3 b0 b1 i
    have e3 : ρ 112 3 = A 3 := by rw [← hA, rowA_0]
    refine ⟨ρ, ?_, h3, fun _ _ _ => rfl⟩
    rw [f_X12_turnedTo_w7, bn_eq (seasonTo_eq h i1 (by rw [e3]; exact i2)), hA, ht, if_pos rfl]
  | succ d ih =>
    intro i n ρ hA h h1 h2 h3
    obtain ⟨n, rfl⟩ : ∃ m, n = m + 1 := ⟨n - 1, by omega⟩
    obtain ⟨i1, i2⟩ := seaI_in p2 p3 b0 b1 i
    obtain ⟨s1, s2⟩ := seaM_in p2 p3 i1 i2
    have e3 : ρ 112 3 = A 3 := by rw [← hA, rowA_0]
    have hS : Sc24 ρ (ms ρ 111 24 (ρ 111 24 + 1)) := fun c j e => by rw [ms_at, if_neg e]
    obtain ⟨ρ', q1, q2, q3⟩ := ih (i + 1) n (ms ρ 111 24 (ρ 111 24 + 1)) (by rw [rowA_co (Sc24_sa hS)]; exact hA) (LR_24 hS h) (by omega) (by omega) (by rw [ms_eq, h3]; omega)
    refine ⟨ρ', ?_, q2, fun c j e => (q3 c j e).trans (hS c j e)⟩
    rw [f_X12_turnedTo_w7, bn_eq (seasonTo_eq h i1 (by rw [e3]; exact i2)), hA, nrm_id (z := seaM A (seaI A i b)) (by omega) (by omega), nrm_id (z := seaI A i b) (by omega) (by omega), if_neg (hm i (by omega))]
    have q4 := seasonTo_eq h i1 (by rw [e3]; exact i2)
    rw [hA] at q4
    rw [bn_eq q4, nm_eq]
    exact q1
theorem turnedTo_eq {b La : Int} {μ ρ : Mem} {t : Nat} (h : LR μ La (rowA ρ 0)) (b0 : 0 ≤ b) (b1 : b < 2 ^ (ρ 112 3).toNat) (t8 : t ≤ 8) (ht : seaM (rowA ρ 0) (seaI (rowA ρ 0) t b) = seaI (rowA ρ 0) t b) (hm : ∀ k < t, seaM (rowA ρ 0) (seaI (rowA ρ 0) k b) ≠ seaI (rowA ρ 0) k b) :
    ∃ ρ', f_X12_turnedTo 111 b ρ = some (seaI (rowA ρ 0) 8 b, ρ') ∧ ρ' 111 24 = t ∧ Sc24 ρ ρ' := by
  obtain ⟨_, p2, p3⟩ := h.2.2.1
  have hS : Sc24 ρ (ms ρ 111 24 0) := fun c j e => by rw [ms_at, if_neg e]
  obtain ⟨ρ', q1, q2, q3⟩ := turnedTo_w (La := La) (μ := μ) (A := rowA ρ 0) (t := t) b0 (by rw [rowA_0]; exact b1) p2 p3 ht hm t 0 FU (ms ρ 111 24 0) (rowA_co (Sc24_sa hS) 0) (LR_24 hS h) (by omega) (by unfold FU; omega) (ms_eq _ _ _ _)
  refine ⟨ρ', ?_, q2, fun c j e => (q3 c j e).trans (hS c j e)⟩
  have e8 : seaI (rowA ρ 0) 8 b = seaI (rowA ρ 0) t b := by
    have := seaI_st ht (8 - t)
    rw [show t + (8 - t) = 8 by omega] at this
    exact this
  unfold f_X12_turnedTo
  rw [nm_eq, e8]
  exact q1
theorem op_turning (a : Int) (ha : nrm a = a) : Op2 (f_X11_turning 0 a) (f_X12_turning 111 a) := by
  intro μ ρ h
  have h' := RR_co (SaC_rfl μ) (SaR_thrown ρ 0) h
  generalize hρ : ms ρ 111 0 0 = ρ1 at h'
  obtain ⟨hL, hR, _, _, _, _, _, _, _, ⟨b1, b2, b3⟩, _⟩ := now_is (C := 58) h'.2.2.1
  obtain ⟨P1, P2, P3, P4⟩ := now_P (C := 58) h'.2.2.1
  unfold f_X11_turning f_X12_turning
  rw [nm_eq, hρ, bn_within ha rfl rfl, ha, show nrm 1 = 1 from rfl, show (0 + 58 : Int) = 58 from rfl, show (111 + 1 : Int) = 112 from rfl]
  by_cases g : 0 ≤ a ∧ a ≤ 1
  · rw [if_neg (by omega : ¬ a < 0), if_pos g.2, if_pos g, if_neg (by decide : ¬ nrm 1 = 0)]
    obtain ⟨t, t1, t2, t3⟩ := sea_fix (A := rowA ρ1 0) (b := ρ1 112 65) (by rw [rowA_0]; exact P2) (by rw [rowA_0]; exact P3) b2 (by rw [rowA_0]; exact P4)
    obtain ⟨ρ2, q1, q2, q3⟩ := turnedTo_eq hR b2 P4 t1 t2 t3
    rw [bn_eq q1]
    have hRR := RR_co (SaC_rfl μ) (Sc24_sa q3) h'
    by_cases z : a = 0
    · rw [if_pos z, if_pos z, gd_pos (isL_k hL), b1, bn_eq (endBack_eq hR b2 (by rw [rowA_0]; exact P4))]
      simp only [wp_some]
      exact ⟨trivial, hRR⟩
    · have s1 := sot_w (t := t) hL hR b2 (by rw [rowA_0]; exact P4) t1 t2 t3 t 0 FU (by omega) (by unfold FU; omega)
      have s2 : f_X11_seasonsOfTurning 0 μ = some ((t : Int), μ) := by
        unfold f_X11_seasonsOfTurning
        rw [nm_eq, show (0 + 58 : Int) = 58 from rfl, b1]
        exact s1
      rw [if_neg z, if_neg z, bn_eq s2]
      simp only [wp_some]
      exact ⟨by rw [q2], hRR⟩
  · rw [if_neg g, if_pos (by decide : nrm 0 = 0)]
    by_cases a1 : a < 0
    · rw [if_pos a1]; simp only [wp_some]; exact ⟨trivial, h'⟩
    · rw [if_neg a1, if_neg (by omega)]; simp only [wp_some]; exact ⟨trivial, h'⟩
theorem when_w {a : Int} {μ ρ : Mem} (h : JR μ 58 ρ) (a0 : 0 ≤ a) (a1 : a < ρ 112 3) : ∀ (r n m : Nat) (i b : Int), 0 ≤ i → i + r = 9 → r < n → r < m → 0 ≤ b → b < 2 ^ (ρ 112 3).toNat →
    ∃ v, f_X11_when_w47 n 0 a b i μ = some (v, μ) ∧ f_X12_when_w38 m 111 a b i ρ = some (v, ρ) := by
  obtain ⟨hL, hR, _, _, _, _, _, _, _, _, _⟩ := now_is h
  obtain ⟨P1, P2, P3, P4⟩ := now_P h
  have hp := pow_back P2 P3
  intro r
  induction r with
  | zero =>
    intro n m i b i0 ir hn hm b0 b1
    obtain ⟨n, rfl⟩ : ∃ m, n = m + 1 := ⟨n - 1, by omega⟩
    obtain ⟨m, rfl⟩ : ∃ q, m = q + 1 := ⟨m - 1, by omega⟩
    refine ⟨-1, ?_, ?_⟩
    · rw [f_X11_when_w47, nrm_id (z := i) (by omega) (by omega), if_pos (by show (8 : Int) < i; omega)]
    · rw [f_X12_when_w38, nrm_id (z := i) (by omega) (by omega), if_pos (by show (8 : Int) < i; omega)]
  | succ r ih =>
    intro n m i b i0 ir hn hm b0 b1
    obtain ⟨n, rfl⟩ : ∃ m, n = m + 1 := ⟨n - 1, by omega⟩
    obtain ⟨m, rfl⟩ : ∃ q, m = q + 1 := ⟨m - 1, by omega⟩
    obtain ⟨s1, s2⟩ := seaM_in (A := rowA ρ 0) (b := b) (by rw [rowA_0]; exact P2) (by rw [rowA_0]; exact P3) b0 (by rw [rowA_0]; exact b1)
    rw [rowA_0] at s2
    rw [f_X11_when_w47, f_X12_when_w38, nrm_id (z := i) (by omega) (by omega), if_neg (by show ¬ ((8 : Int) < i); omega), if_neg (by show ¬ ((8 : Int) < i); omega), show (0 + 58 : Int) = 58 from rfl, gd_pos (isL_k hL), bn_eq (backBehind_eq hR b0 (by omega)), bn_eq (seasonTo_eq hR b0 b1), nrm_id (z := seaM (rowA ρ 0) b) (by omega) (by omega), bn_eq (isIn_eq ρ s1 (by omega) a0 (by omega)), jbit s1 (by omega) a0 (by omega)]
    cases tb (seaM (rowA ρ 0) b) a
    · obtain ⟨v, q1, q2⟩ := ih n m (i + 1) (seaM (rowA ρ 0) b) (by omega) (by omega) (by omega) (by omega) s1 s2
      exact ⟨v, q1, q2⟩
    · exact ⟨i, rfl, rfl⟩
theorem op_when (a : Int) (ha : nrm a = a) : Op2 (f_X11_when 0 a) (f_X12_when 111 a) := by
  intro μ ρ h
  have h' := RR_co (SaC_rfl μ) (SaR_thrown ρ 0) h
  generalize hρ : ms ρ 111 0 0 = ρ1 at h'
  obtain ⟨hL, hR, _, _, _, _, _, _, _, ⟨b1, b2, b3⟩, _⟩ := now_is (C := 58) h'.2.2.1
  obtain ⟨P1, P2, P3, P4⟩ := now_P (C := 58) h'.2.2.1
  unfold f_X11_when f_X12_when
  rw [nm_eq, nm_eq, hρ, bn_eq (isPerson_eq P2 P3), nrl_nrm, ha, show (0 + 58 : Int) = 58 from rfl, show (111 + 1 : Int) = 112 from rfl, gd_pos (isL_k hL), P1, nrm_id (z := ρ1 112 3) (by omega) (by omega), b1, nm_eq]
  by_cases z : 0 ≤ a ∧ a < ρ1 112 3
  · obtain ⟨v, q1, q2⟩ := when_w (ρ := ρ1) h'.2.2.1 z.1 z.2 8 FU FU 1 (ρ1 112 65) (by decide) (by decide) (by unfold FU; omega) (by unfold FU; omega) b2 P4
    rw [if_pos z, if_neg (by omega : ¬ a < 0), if_pos z.2, if_neg (by decide : ¬ nrm 1 = 0), nrm_id (z := ρ1 112 65) (by omega) (by omega), bn_eq (isIn_eq ρ1 b2 (by omega) z.1 (by omega)), jbit b2 (by omega) z.1 (by omega), q1, q2]
    cases tb (ρ1 112 65) a
    · rw [if_neg (by decide : ¬ false = true), if_pos (by decide : nrm 0 = 0), if_pos (by decide : nrm 0 = 0)]
      simp only [wp_some]
      exact ⟨trivial, h'⟩
    · rw [if_pos (rfl : true = true), if_neg (by decide : ¬ nrm 1 = 0), if_neg (by decide : ¬ nrm 1 = 0)]
      simp only [wp_some]
      exact ⟨trivial, h'⟩
  · rw [if_neg z, if_pos (by decide : nrm 0 = 0)]
    by_cases a0 : a < 0
    · rw [if_pos a0]; simp only [wp_some]; exact ⟨trivial, h'⟩
    · rw [if_neg a0, if_neg (by omega)]; simp only [wp_some]; exact ⟨trivial, h'⟩
