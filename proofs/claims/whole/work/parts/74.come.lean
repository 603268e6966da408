theorem hasPlace_eq {La k : Int} {A : Int → Int} {μ : Mem} (h : LR μ La A) (hk : nrm k = k) : f_X3_hasPlace La k μ = some (if 0 ≤ k ∧ k < A 1 then 1 else 0, μ) := by
  obtain ⟨⟨g1, g2, g3⟩, _⟩ := h
  unfold f_X3_hasPlace
  rw [hk, g1, nrm_id (z := A 1) (by omega) (by omega), show nrm 7 = 7 from rfl]
  by_cases a : k < 0
  · rw [if_pos a, if_neg (by omega)]
  · rw [if_neg a]
    by_cases b : A 1 ≤ k
    · rw [if_pos b, if_neg (by omega)]
    · rw [if_neg b, if_neg (by omega), if_pos (by omega)]
theorem isPlace_eq {k : Int} {ρ : Mem} (K0 : 1 ≤ ρ 112 1) (K7 : ρ 112 1 ≤ 7) (hk : nrm k = k) : f_X12_isPlace 111 k ρ = some (if 0 ≤ k ∧ k < ρ 112 1 then 1 else 0, ρ) := by
  unfold f_X12_isPlace
  rw [bn_within hk rfl (nrm_nrm _), show (111 + 1 : Int) = 112 from rfl, nrm_id (z := ρ 112 1 - 1) (by omega) (by omega)]
  by_cases g : 0 ≤ k ∧ k < ρ 112 1
  · rw [if_pos (by omega : 0 ≤ k ∧ k ≤ ρ 112 1 - 1), if_pos g, gd_pos (.inr rfl)]
  · rw [if_neg (by omega : ¬ (0 ≤ k ∧ k ≤ ρ 112 1 - 1)), if_neg g, gd_pos (.inl rfl)]
/-- The open lanes as bits. -/
def olU (A : Int → Int) : Nat → Int → Int → Int
  | 0, _, x => x
  | d + 1, l, x => olU A d (l + 1) (if openM A l = 0 then x else jor x (jshl 1 l))
theorem olU_tb {A : Int → Int} {j : Int} (j0 : 0 ≤ j) : ∀ (d : Nat) (p x : Int), 0 ≤ p → p + d ≤ 9 → 0 ≤ x → x < 2 ^ 9 → (0 ≤ olU A d p x ∧ olU A d p x < 2 ^ 9) ∧ tb (olU A d p x) j = (tb x j || decide (p ≤ j ∧ j < p + d ∧ openM A j = 1)) := by
  intro d
  induction d with
  | zero =>
    intro p x _ _ h1 h2
    unfold olU
    rw [decide_eq_false (by omega), Bool.or_false]
    exact ⟨⟨h1, h2⟩, rfl⟩
  | succ d ih =>
    intro p x p0 pd h1 h2
    unfold olU
    have o : openM A p = 0 ∨ openM A p = 1 := mayM_01 _ _ _ _ _
    by_cases g : openM A p = 0
    · rw [if_pos g]
      obtain ⟨i1, i2⟩ := ih (p + 1) x (by omega) (by omega) h1 h2
      refine ⟨i1, ?_⟩
      rw [i2]
      congr 1
      apply decide_eq_decide.mpr
      constructor
      · intro q; omega
      · intro q
        by_cases e : j = p
        · subst e; omega
        · omega
    · rw [if_neg g]
      obtain ⟨j1, j2, j3⟩ := jor_tb (x := x) (k := p) h1 (by omega) p0 (by omega)
      obtain ⟨i1, i2⟩ := ih (p + 1) _ (by omega) (by omega) j1 (j3 9 h2 (by omega))
      refine ⟨i1, ?_⟩
      rw [i2, j2 j j0, Bool.or_assoc]
      congr 1
      rw [← Bool.decide_or]
      apply decide_eq_decide.mpr
      constructor
      · intro q
        rcases q with q | q
        · subst q; omega
        · omega
      · intro q
        by_cases e : j = p
        · exact .inl e
        · exact .inr (by omega)
theorem open_w {ρ : Mem} : ∀ (d n : Nat) (l x : Int) (μ : Mem), 0 ≤ l → l + d = ρ 112 2 → d < n → JR μ 58 ρ → ∃ μ', f_X0_openLanes_w4 n 58 x l μ = some (olU (rowA ρ 0) d l x, μ') ∧ SaC μ μ' := by
  intro d
  induction d with
  | zero =>
    intro n l x μ l0 ld hn j
    obtain ⟨n, rfl⟩ : ∃ q, n = q + 1 := ⟨n - 1, by omega⟩
    obtain ⟨hL, hR, _, ⟨L0, L9⟩, _, _, hl, _⟩ := now_is j
    refine ⟨μ, ?_, SaC_rfl μ⟩
    rw [f_X0_openLanes_w4, gd_pos (isL_k hL), hl, nrm_id (z := ρ 112 2) (by omega) (by omega), nrm_id (z := l) (by omega) (by omega), if_pos (by omega)]
    rfl
  | succ d ih =>
    intro n l x μ l0 ld hn j
    obtain ⟨n, rfl⟩ : ∃ q, n = q + 1 := ⟨n - 1, by omega⟩
    obtain ⟨hL, hR, _, ⟨L0, L9⟩, _, _, hl, _, ⟨r1, r2, r3⟩, ⟨b1, b2, b3⟩, hd⟩ := now_is j
    obtain ⟨d1, d2, d3⟩ := hd l l0 (by omega)
    obtain ⟨μ2, p1, p2⟩ := mayGo_c hL hR l0 (by rw [rowA_0]; omega) d2 d3 kk_58 r1 b1 r2 r3 b2 b3
    have hop : mayM (rowA ρ 0) l (ρ 112 (56 + l)) (ρ 112 66) (ρ 112 65) = openM (rowA ρ 0) l := by
      unfold openM
      rw [rowA_0, rowA_0, rowA_0]
    rw [hop] at p1
    have o : openM (rowA ρ 0) l = 0 ∨ openM (rowA ρ 0) l = 1 := mayM_01 _ _ _ _ _
    have sa := ScL_sa hL p2
    obtain ⟨j2, _⟩ := JR_sa sa (SaR_rfl ρ) j
    obtain ⟨μ3, q1, q2⟩ := ih n (l + 1) (if openM (rowA ρ 0) l = 0 then x else jor x (jshl 1 l)) μ2 (by omega) (by omega) (by omega) j2
    refine ⟨μ3, ?_, SaC_tr sa q2⟩
    rw [f_X0_openLanes_w4, gd_pos (isL_k hL), hl, nrm_id (z := ρ 112 2) (by omega) (by omega), nrm_id (z := l) (by omega) (by omega), if_neg (by omega), if_neg (by show ¬ ((9 : Int) ≤ l); omega), gd_pos (by omega), show (58 + 1 : Int) = 59 from rfl]
    rw [show (58 + 1 : Int) = 59 from rfl] at d1
    rw [d1, bn_eq p1, nrm_id (z := openM (rowA ρ 0) l) (by omega) (by omega), nm_eq]
    show _ = some (olU (rowA ρ 0) d (l + 1) _, μ3)
    rw [← q1]
    split <;> rfl
theorem openLanes_eq {μ ρ : Mem} (j : JR μ 58 ρ) : ∃ s μ', f_X0_openLanes 58 μ = some (s, μ') ∧ SaC μ μ' ∧ 0 ≤ s ∧ s < 512 ∧ (∀ l, 0 ≤ l → tb s l = decide (l < ρ 112 2 ∧ openM (rowA ρ 0) l = 1)) := by
  obtain ⟨_, _, _, ⟨L0, L9⟩, _⟩ := now_is j
  obtain ⟨μ2, p1, p2⟩ := open_w (ρ := ρ) (ρ 112 2).toNat FU 0 0 μ (by decide) (by omega) (by unfold FU; omega) j
  have h := fun l (l0 : (0 : Int) ≤ l) => olU_tb (A := rowA ρ 0) (j := l) l0 (ρ 112 2).toNat 0 0 (by decide) (by omega) (by decide) (by decide)
  obtain ⟨h1, h2⟩ := (h 0 (by decide)).1
  refine ⟨_, μ2, p1, p2, h1, by omega, ?_⟩
  intro l l0
  rw [(h l l0).2]
  have z : tb 0 l = false := by unfold tb; simp
  rw [z, Bool.false_or]
  apply decide_eq_decide.mpr
  omega
/-- The ends of a lane as bits. -/
def endsB (A : Int → Int) (l : Int) : Int := jor (jshl 1 (A (11 + l))) (jshl 1 (A (20 + l)))
/-- One round of coming further. -/
def cpU (A : Int → Int) (set : Int) : Nat → Int → Int → Int
  | 0, _, x => x
  | d + 1, l, x => cpU A set d (l + 1) (if tb set l = true ∧ jand x (endsB A l) ≠ 0 then jor x (endsB A l) else x)
theorem shl_tb {k : Int} (k0 : 0 ≤ k) (k1 : k < 7) : 0 ≤ jshl 1 k ∧ jshl 1 k < 2 ^ 7 ∧ (∀ j, 0 ≤ j → tb (jshl 1 k) j = decide (j = k)) := by
  have e := jshl_n (k := k.toNat) (by omega)
  rw [Int.toNat_of_nonneg k0] at e
  have h2 : (2 : Nat) ^ k.toNat < 2 ^ 7 := Nat.pow_lt_pow_right (by decide) (by omega)
  rw [e]
  refine ⟨Int.natCast_nonneg _, by omega, ?_⟩
  intro j j0
  unfold tb
  rw [Int.toNat_natCast, Nat.testBit_two_pow]
  apply decide_eq_decide.mpr
  omega
theorem ends_tb {μ : Mem} {La l : Int} {A : Int → Int} (h : LR μ La A) (l0 : 0 ≤ l) (l1 : l < A 2) : 0 ≤ endsB A l ∧ endsB A l < 2 ^ 7 ∧ (∀ j, 0 ≤ j → tb (endsB A l) j = (decide (j = A (11 + l)) || decide (j = A (20 + l)))) := by
  obtain ⟨⟨_, _, k7⟩, _, _, _, _, g6, _⟩ := h
  obtain ⟨_, a2, a3, _, b2, b3, _⟩ := g6 l l0 l1
  obtain ⟨x1, x2, x3⟩ := shl_tb a2 (by omega)
  obtain ⟨y1, y2, y3⟩ := shl_tb b2 (by omega)
  unfold endsB
  obtain ⟨j1, j2, j3⟩ := jor_tb2 x1 (by omega) y1 (by omega)
  refine ⟨j1, j3 7 x2 y2, ?_⟩
  intro j j0
  rw [j2 j j0, x3 j j0, y3 j j0]
theorem ends_and {μ : Mem} {La l x : Int} {A : Int → Int} (h : LR μ La A) (l0 : 0 ≤ l) (l1 : l < A 2) (x0 : 0 ≤ x) (x1 : x < 2 ^ 7) : jand x (endsB A l) ≠ 0 ↔ (tb x (A (11 + l)) = true ∨ tb x (A (20 + l)) = true) := by
  obtain ⟨e1, e2, e3⟩ := ends_tb h l0 l1
  obtain ⟨j1, j2, j3⟩ := jand_tb2 x0 (by omega) e1 (by omega)
  obtain ⟨⟨_, _, k7⟩, _, _, _, _, g6, _⟩ := h
  obtain ⟨_, a2, a3, _, b2, b3, _⟩ := g6 l l0 l1
  constructor
  · intro hn
    apply Classical.byContradiction
    intro hc
    apply hn
    apply tb_ext j1 (by decide)
    intro k k0
    have z : tb 0 k = false := by unfold tb; simp
    rw [j3 k k0, e3 k k0, z]
    by_cases q1 : k = A (11 + l)
    · have : tb x k = false := by
        cases hx : tb x k
        · rfl
        · exact absurd (.inl (q1 ▸ hx)) hc
      rw [this]; rfl
    · by_cases q2 : k = A (20 + l)
      · have : tb x k = false := by
          cases hx : tb x k
          · rfl
          · exact absurd (.inr (q2 ▸ hx)) hc
        rw [this]; rfl
      · rw [decide_eq_false q1, decide_eq_false q2, Bool.or_false, Bool.and_false]
  · intro hor he
    rcases hor with q | q
    · have := j3 (A (11 + l)) a2
      rw [he, q, e3 _ a2, decide_eq_true rfl] at this
      have z : tb 0 (A (11 + l)) = false := by unfold tb; simp
      rw [z] at this
      cases this
    · have := j3 (A (20 + l)) b2
      rw [he, q, e3 _ b2, decide_eq_true (rfl : A (20 + l) = A (20 + l)), Bool.or_true] at this
      have z : tb 0 (A (20 + l)) = false := by unfold tb; simp
      rw [z] at this
      cases this
/-- What a round does: it stays within, it grows, it keeps what is closed, and if it adds none, all is closed. -/
theorem cpU_ok {μ : Mem} {La set : Int} {A : Int → Int} (h : LR μ La A) : ∀ (d : Nat) (l x : Int), 0 ≤ l → l + d = A 2 → 0 ≤ x → x < 2 ^ 7 →
    (0 ≤ cpU A set d l x ∧ cpU A set d l x < 2 ^ 7) ∧ (∀ j, 0 ≤ j → tb x j = true → tb (cpU A set d l x) j = true) ∧
    (∀ R : Int → Bool, (∀ k, 0 ≤ k → k < A 2 → tb set k = true → R (A (11 + k)) = R (A (20 + k))) → (∀ j, 0 ≤ j → tb x j = true → R j = true) → ∀ j, 0 ≤ j → tb (cpU A set d l x) j = true → R j = true) ∧
    (cpU A set d l x = x → ∀ k, l ≤ k → k < A 2 → tb set k = true → tb x (A (11 + k)) = tb x (A (20 + k))) := by
  intro d
  induction d with
  | zero =>
    intro l x l0 ld x0 x1
    exact ⟨⟨x0, x1⟩, fun _ _ q => q, fun R _ q => q, fun _ k k0 k1 => absurd k1 (by omega)⟩
  | succ d ih =>
    intro l x l0 ld x0 x1
    obtain ⟨e1, e2, e3⟩ := ends_tb h l0 (by omega : l < A 2)
    have ea := ends_and h l0 (by omega : l < A 2) x0 x1
    have gg := h
    obtain ⟨⟨_, _, k7⟩, _, _, _, _, g6, _⟩ := gg
    obtain ⟨_, a2, a3, _, b2, b3, _⟩ := g6 l l0 (by omega)
    show (0 ≤ cpU A set d (l + 1) (if tb set l = true ∧ jand x (endsB A l) ≠ 0 then jor x (endsB A l) else x) ∧ _) ∧ _
    have hu : cpU A set (d + 1) l x = cpU A set d (l + 1) (if tb set l = true ∧ jand x (endsB A l) ≠ 0 then jor x (endsB A l) else x) := rfl
    rw [hu]
    by_cases c : tb set l = true ∧ jand x (endsB A l) ≠ 0
    · rw [if_pos c]
      obtain ⟨j1, j2, j3⟩ := jor_tb2 x0 (by omega : x < 2147483648) e1 (by omega)
      obtain ⟨i1, i2, i3, i4⟩ := ih (l + 1) (jor x (endsB A l)) (by omega) (by omega) j1 (j3 7 x1 e2)
      refine ⟨i1, ?_, ?_, ?_⟩
      · intro j j0 q
        exact i2 j j0 (by rw [j2 j j0, q]; rfl)
      · intro R hR hx
        apply i3 R hR
        intro j j0 q
        rw [j2 j j0, e3 j j0] at q
        have hl := hR l l0 (by omega) c.1
        have hone : R (A (11 + l)) = true ∧ R (A (20 + l)) = true := by
          rcases ea.mp c.2 with z | z
          · have := hx _ a2 z
            exact ⟨this, by rw [← hl]; exact this⟩
          · have := hx _ b2 z
            exact ⟨by rw [hl]; exact this, this⟩
        cases hxj : tb x j
        · rw [hxj, Bool.false_or, Bool.or_eq_true] at q
          rcases q with q | q
          · rw [of_decide_eq_true q]; exact hone.1
          · rw [of_decide_eq_true q]; exact hone.2
        · exact hx j j0 hxj
      · intro q k k0 k1 ks
        have hx : ∀ j, 0 ≤ j → tb (jor x (endsB A l)) j = true → tb x j = true := by
          intro j j0 z
          have := i2 j j0 z
          rw [q] at this
          exact this
        have hxe : tb x (A (11 + l)) = true ∧ tb x (A (20 + l)) = true := by
          refine ⟨hx _ a2 ?_, hx _ b2 ?_⟩
          · rw [j2 _ a2, e3 _ a2, decide_eq_true rfl, Bool.true_or, Bool.or_true]
          · rw [j2 _ b2, e3 _ b2, decide_eq_true (rfl : A (20 + l) = A (20 + l)), Bool.or_true, Bool.or_true]
        have ex : jor x (endsB A l) = x := by
          apply tb_ext j1 x0
          intro j j0
          cases z : tb x j
          · cases z2 : tb (jor x (endsB A l)) j
            · rfl
            · have := hx j j0 z2
              rw [z] at this
              cases this
          · rw [j2 j j0, z]; rfl
        by_cases e : k = l
        · subst e; rw [hxe.1, hxe.2]
        · rw [ex] at q i4
          exact i4 q k (by omega) k1 ks
    · rw [if_neg c]
      obtain ⟨i1, i2, i3, i4⟩ := ih (l + 1) x (by omega) (by omega) x0 x1
      refine ⟨i1, i2, i3, ?_⟩
      intro q k k0 k1 ks
      by_cases e : k = l
      · subst e
        have hn : ¬ (tb x (A (11 + k)) = true ∨ tb x (A (20 + k)) = true) := fun z => c ⟨ks, ea.mpr z⟩
        cases z1 : tb x (A (11 + k))
        · cases z2 : tb x (A (20 + k))
          · rfl
          · exact absurd (.inr z2) hn
        · exact absurd (.inl z1) hn
      · exact i4 q k (by omega) k1 ks
def cmI (A : Int → Int) (set st : Int) : Nat → Int
  | 0 => jshl 1 st
  | n + 1 => cpU A set (A 2).toNat 0 (cmI A set st n)
/-- The places to which one can come, as bits. -/
def isCm (A : Int → Int) (set st s : Int) : Prop := 0 ≤ s ∧ s < 2 ^ 7 ∧ tb s st = true ∧ (∀ k, 0 ≤ k → k < A 2 → tb set k = true → tb s (A (11 + k)) = tb s (A (20 + k))) ∧
  (∀ R : Int → Bool, R st = true → (∀ k, 0 ≤ k → k < A 2 → tb set k = true → R (A (11 + k)) = R (A (20 + k))) → ∀ j, 0 ≤ j → tb s j = true → R j = true)
theorem cm_ok {μ : Mem} {La set st : Int} {A : Int → Int} (h : LR μ La A) (t0 : 0 ≤ st) (t7 : st < 7) : ∀ n, 0 ≤ cmI A set st n ∧ cmI A set st n < 2 ^ 7 ∧ tb (cmI A set st n) st = true ∧
    (∀ R : Int → Bool, R st = true → (∀ k, 0 ≤ k → k < A 2 → tb set k = true → R (A (11 + k)) = R (A (20 + k))) → ∀ j, 0 ≤ j → tb (cmI A set st n) j = true → R j = true)
  | 0 => by
    obtain ⟨x1, x2, x3⟩ := shl_tb t0 t7
    refine ⟨x1, x2, ?_, ?_⟩
    · show tb (jshl 1 st) st = true
      rw [x3 st t0]; exact decide_eq_true rfl
    · intro R hR _ j j0 hj
      have hj : tb (jshl 1 st) j = true := hj
      rw [x3 j j0] at hj
      rw [of_decide_eq_true hj]; exact hR
  | n + 1 => by
    obtain ⟨x1, x2, x3, x4⟩ := cm_ok (set := set) h t0 t7 n
    have h2 := h.2.1.2.1
    obtain ⟨i1, i2, i3, i4⟩ := cpU_ok (set := set) h (A 2).toNat 0 (cmI A set st n) (by decide) (by omega) x1 x2
    exact ⟨i1.1, i1.2, i2 st t0 x3, fun R hR hC => i3 R hC (x4 R hR hC)⟩
theorem bo_7 {z : Int} (z0 : 0 ≤ z) (z1 : z < 2 ^ 7) : boM z ≤ 7 := bo_P (P := 7) (by decide) z0 z1
theorem cm_fix {μ : Mem} {La set st : Int} {A : Int → Int} (h : LR μ La A) (t0 : 0 ≤ st) (t7 : st < 7) : ∃ t : Nat, t ≤ 6 ∧ cmI A set st (t + 1) = cmI A set st t ∧ (∀ k < t, cmI A set st (k + 1) ≠ cmI A set st k) := by
  have h2 := h.2.1.2.1
  have key : ∀ k : Nat, (∃ t : Nat, t < k ∧ cmI A set st (t + 1) = cmI A set st t ∧ (∀ j < t, cmI A set st (j + 1) ≠ cmI A set st j)) ∨ ((∀ j < k, cmI A set st (j + 1) ≠ cmI A set st j) ∧ (k : Int) + 1 ≤ boM (cmI A set st k)) := by
    intro k
    induction k with
    | zero =>
      refine .inr ⟨fun j hj => absurd hj (by omega), ?_⟩
      obtain ⟨x1, x2, x3, _⟩ := cm_ok (set := set) h t0 t7 0
      have z : boM 0 = 0 := by decide
      have := bo_lt (x := 0) (y := cmI A set st 0) (by decide) (by decide) x1 (by omega) (fun j _ q => by
        have : tb 0 j = false := by unfold tb; simp
        rw [this] at q; cases q) (by
        intro q
        have : tb 0 st = false := by unfold tb; simp
        rw [← q, this] at x3; cases x3)
      rw [z] at this
      have : 0 < boM (cmI A set st 0) := this
      omega
    | succ k ih =>
      rcases ih with ⟨t, h1, h2⟩ | ⟨h1, h2⟩
      · exact .inl ⟨t, by omega, h2⟩
      · by_cases e : cmI A set st (k + 1) = cmI A set st k
        · exact .inl ⟨k, by omega, e, h1⟩
        · refine .inr ⟨?_, ?_⟩
          · intro j hj
            by_cases ej : j = k
            · subst ej; exact e
            · exact h1 j (by omega)
          · obtain ⟨x1, x2, _, _⟩ := cm_ok (set := set) h t0 t7 k
            obtain ⟨y1, y2, _, _⟩ := cm_ok (set := set) h t0 t7 (k + 1)
            obtain ⟨_, i2, _⟩ := cpU_ok (set := set) h (A 2).toNat 0 (cmI A set st k) (by decide) (by omega) x1 x2
            have := bo_lt x1 (by omega) y1 (by omega) i2 (Ne.symm e)
            omega
  rcases key 7 with ⟨t, h1, h2, h3⟩ | ⟨h1, h2⟩
  · exact ⟨t, by omega, h2, h3⟩
  · obtain ⟨x1, x2, _, _⟩ := cm_ok (set := set) h t0 t7 7
    have := bo_7 x1 x2
    omega
theorem cm_is {μ : Mem} {La set st : Int} {A : Int → Int} {t : Nat} (h : LR μ La A) (t0 : 0 ≤ st) (t7 : st < 7) (hf : cmI A set st (t + 1) = cmI A set st t) : isCm A set st (cmI A set st t) := by
  have h2 := h.2.1.2.1
  obtain ⟨x1, x2, x3, x4⟩ := cm_ok (set := set) h t0 t7 t
  obtain ⟨_, _, _, i4⟩ := cpU_ok (set := set) h (A 2).toNat 0 (cmI A set st t) (by decide) (by omega) x1 x2
  exact ⟨x1, x2, x3, i4 hf, x4⟩
theorem isCm_uni {A : Int → Int} {set st s s' : Int} (t0 : 0 ≤ st) (h : isCm A set st s) (h' : isCm A set st s') : s = s' := by
  obtain ⟨a1, a2, a3, a4, a5⟩ := h
  obtain ⟨b1, b2, b3, b4, b5⟩ := h'
  apply tb_ext a1 b1
  intro k k0
  cases q : tb s k
  · cases q' : tb s' k
    · rfl
    · have := b5 (fun j => tb s j) a3 a4 k k0 q'
      rw [q] at this
      cases this
  · have := a5 (fun j => tb s' j) b3 b4 k k0 q
    rw [this]
theorem isCm_K {μ : Mem} {La set st s : Int} {A : Int → Int} (h : LR μ La A) (t0 : 0 ≤ st) (t1 : st < A 1) (hs : isCm A set st s) {j : Int} (j0 : 0 ≤ j) (hj : tb s j = true) : j < A 1 := by
  obtain ⟨⟨_, _, k7⟩, _, _, _, _, g6, _⟩ := h
  have := hs.2.2.2.2 (fun j => decide (j < A 1)) (decide_eq_true t1) (fun k k0 k1 _ => by
    obtain ⟨_, a2, a3, _, b2, b3, _⟩ := g6 k k0 k1
    rw [decide_eq_true a3, decide_eq_true b3]) j j0 hj
  exact of_decide_eq_true this
/-- Come to by bits, and not infinitely far. -/
theorem cm_D {μ : Mem} {La set st s : Int} {A w D : Int → Int} (h : LR μ La A) (hw : okW A w) (t0 : 0 ≤ st) (t7 : st < 7) (hsw : ∀ l, 0 ≤ l → l < A 2 → (tb set l = true ↔ w l ≠ -1)) (hs : isCm A set st s) (hD : isD (EdG A w) st D) {k : Int} (k0 : 0 ≤ k) (k7 : k < 7) : tb s k = true ↔ D k ≠ farI := by
  have ok := EdG_ok h hw
  have hf : farI = 268435456 := rfl
  have nf := nfin_in D
  have step : ∀ l x y, 0 ≤ l → l < A 2 → w l ≠ -1 → ((x = A (11 + l) ∧ y = A (20 + l)) ∨ (x = A (20 + l) ∧ y = A (11 + l))) → D x ≠ farI → D y ≠ farI := by
    intro l x y l0 l1 lw hxy hx
    have E : EdG A w (w l, x, y) := ⟨l, l0, l1, lw, rfl, hxy⟩
    obtain ⟨o1, o2, o3, o4, o5, o6⟩ := ok _ E
    dsimp only at o1 o2 o3 o4 o5 o6
    have a := hD.2 _ E hx
    dsimp only at a
    have b := hD.1.2.2.2 x o3 o4 hx
    omega
  constructor
  · intro q
    have := hs.2.2.2.2 (fun j => decide (D j ≠ farI)) (decide_eq_true (by rw [hD.1.1]; decide)) (fun l l0 l1 ls => by
      have lw := (hsw l l0 l1).mp ls
      apply decide_eq_decide.mpr
      exact ⟨step l _ _ l0 l1 lw (.inl ⟨rfl, rfl⟩), step l _ _ l0 l1 lw (.inr ⟨rfl, rfl⟩)⟩) k k0 q
    exact of_decide_eq_true this
  · have key : ∀ (n : Nat) (k : Int), 0 ≤ k → k < 7 → D k ≤ n → D k ≠ farI → tb s k = true := by
      intro n
      induction n with
      | zero =>
        intro k k0 k7 kn kf
        by_cases e : k = st
        · rw [e]; exact hs.2.2.1
        · exfalso
          obtain ⟨e, x1, x2, x3, x4⟩ := hD.1.2.2.1 k k0 k7 e kf
          obtain ⟨o1, _, o3, o4, _⟩ := ok e x1
          have := hD.1.2.1 e.2.1 o3 o4
          omega
      | succ n ih =>
        intro k k0 k7 kn kf
        by_cases e : k = st
        · rw [e]; exact hs.2.2.1
        · obtain ⟨e, x1, x2, x3, x4⟩ := hD.1.2.2.1 k k0 k7 e kf
          obtain ⟨o1, _, o3, o4, _⟩ := ok e x1
          have ta := ih e.2.1 o3 o4 (by omega) x3
          obtain ⟨l, l0, l1, lw, _, hxy⟩ := x1
          have cl := hs.2.2.2.1 l l0 l1 ((hsw l l0 l1).mpr lw)
          rcases hxy with ⟨z1, z2⟩ | ⟨z1, z2⟩
          · rw [z1] at ta; rw [← x2, z2, ← cl]; exact ta
          · rw [z1] at ta; rw [← x2, z2, cl]; exact ta
    intro kf
    exact key (D k).toNat k k0 k7 (by have := hD.1.2.1 k k0 k7; omega) kf
theorem come_l {La set r b : Int} {A : Int → Int} {μ : Mem} {K : Int → Int → Int → Int → Mem → Option (Int × Mem)} (h : LR μ La A) (s0 : 0 ≤ set) (s1 : set < 512) :
    ∀ (d n : Nat) (l x : Int), 0 ≤ l → l + d = A 2 → d < n → 0 ≤ x → x < 2 ^ 7 → f_X3_comingFrom_w20 K n La set x r b l μ = f_X3_comingFrom_j84 K La set (cpU A set d l x) r b μ := by
  obtain ⟨⟨_, _, k7⟩, ⟨g2, g20, g29⟩, _, _, _, g6, _⟩ := id h
  intro d
  induction d with
  | zero =>
    intro n l x l0 ld hn x0 x1
    obtain ⟨n, rfl⟩ : ∃ q, n = q + 1 := ⟨n - 1, by omega⟩
    rw [f_X3_comingFrom_w20, g2, nrm_id (z := A 2) (by omega) (by omega), nrm_id (z := l) (by omega) (by omega), if_pos (by omega)]
    rfl
  | succ d ih =>
    intro n l x l0 ld hn x0 x1
    obtain ⟨n, rfl⟩ : ∃ q, n = q + 1 := ⟨n - 1, by omega⟩
    obtain ⟨a1, a2, a3, b1, b2, b3, _⟩ := g6 l l0 (by omega)
    obtain ⟨e1, e2, e3⟩ := ends_tb h l0 (by omega : l < A 2)
    obtain ⟨j1, j2, j3⟩ := jor_tb2 x0 (by omega : x < 2147483648) e1 (by omega)
    show _ = f_X3_comingFrom_j84 K La set (cpU A set d (l + 1) (if tb set l = true ∧ jand x (endsB A l) ≠ 0 then jor x (endsB A l) else x)) r b μ
    rw [f_X3_comingFrom_w20, g2, nrm_id (z := A 2) (by omega) (by omega), nrm_id (z := l) (by omega) (by omega), if_neg (by omega), if_neg (by show ¬ ((9 : Int) ≤ l); omega), gd_pos (by omega), gd_pos (by omega), nm_eq, a1, b1, jbit s0 (by omega) l0 (by omega), show jor (jshl 1 (A (11 + l))) (jshl 1 (A (20 + l))) = endsB A l from rfl, nrm_jand, nm_eq]
    unfold f_X3_comingFrom_j78
    by_cases t : tb set l = true
    · rw [if_pos t, if_neg (by decide : ¬ nrm 1 = 0)]
      by_cases z : jand x (endsB A l) = 0
      · rw [if_pos z, if_neg (fun q => q.2 z)]
        exact ih n (l + 1) x (by omega) (by omega) (by omega) x0 x1
      · rw [if_neg z, if_pos ⟨t, z⟩]
        exact ih n (l + 1) _ (by omega) (by omega) (by omega) j1 (j3 7 x1 e2)
    · rw [if_neg t, if_pos (by decide : nrm 0 = 0), if_neg (fun q => t q.1)]
      exact ih n (l + 1) x (by omega) (by omega) (by omega) x0 x1
theorem come_r {La set st : Int} {A : Int → Int} {μ : Mem} {t : Nat} (h : LR μ La A) (s0 : 0 ≤ set) (s1 : set < 512) (t0 : 0 ≤ st) (t7 : st < 7) (t6 : t ≤ 6) (hf : cmI A set st (t + 1) = cmI A set st t) (hm : ∀ k < t, cmI A set st (k + 1) ≠ cmI A set st k) :
    ∀ (d i n : Nat), i + d = t → d < n → f_X3_comingFrom_w7 n La set (cmI A set st i) i μ = some (cmI A set st t, μ) := by
  have h20 := h.2.1.2.1
  have h29 := h.2.1.2.2
  have hu : ∀ (i n : Nat), i ≤ 6 → f_X3_comingFrom_w7 (n + 1) La set (cmI A set st i) i μ = if cmI A set st (i + 1) = cmI A set st i then some (cmI A set st (i + 1), μ) else f_X3_comingFrom_w7 n La set (cmI A set st (i + 1)) ((i + 1 : Nat) : Int) μ := by
    intro i n hi
    obtain ⟨x1, x2, _⟩ := cm_ok (set := set) h t0 t7 i
    obtain ⟨y1, y2, _⟩ := cm_ok (set := set) h t0 t7 (i + 1)
    rw [f_X3_comingFrom_w7, nrm_id (z := (i : Int)) (by omega) (by omega), if_neg (by show ¬ ((7 : Int) ≤ i); omega), come_l h s0 s1 (A 2).toNat FU 0 _ (by decide) (by omega) (by unfold FU; omega) x1 x2]
    unfold f_X3_comingFrom_j84
    show (if nrm (cmI A set st (i + 1)) = nrm (cmI A set st i) then some (cmI A set st (i + 1), μ) else f_X3_comingFrom_w7 n La set (cmI A set st (i + 1)) ((i : Int) + 1) μ) = _
    rw [nrm_id (z := cmI A set st (i + 1)) (by omega) (by omega), nrm_id (z := cmI A set st i) (by omega) (by omega), show ((i + 1 : Nat) : Int) = (i : Int) + 1 by omega]
  intro d
  induction d with
  | zero =>
    intro i n hi hn
    obtain ⟨n, rfl⟩ : ∃ q, n = q + 1 := ⟨n - 1, by omega⟩
    obtain rfl : i = t := by omega
    rw [hu i n t6, if_pos hf, hf]
  | succ d ih =>
    intro i n hi hn
    obtain ⟨n, rfl⟩ : ∃ q, n = q + 1 := ⟨n - 1, by omega⟩
    rw [hu i n (by omega), if_neg (hm i (by omega))]
    exact ih (i + 1) n (by omega) (by omega)
theorem comingFrom_eq {La set st : Int} {A : Int → Int} {μ : Mem} (h : LR μ La A) (s0 : 0 ≤ set) (s1 : set < 512) (t0 : 0 ≤ st) (t7 : st < 7) : ∃ s, f_X3_comingFrom La st set μ = some (s, μ) ∧ isCm A set st s := by
  obtain ⟨t, t1, t2, t3⟩ := cm_fix (set := set) h t0 t7
  refine ⟨_, ?_, cm_is h t0 t7 t2⟩
  unfold f_X3_comingFrom
  rw [nm_eq]
  exact come_r h s0 s1 t0 t7 t1 t2 t3 t 0 FU (by omega) (by unfold FU; omega)
