def CS (A dv D : Int → Int) (La g : Int) (μ : Mem) : Prop :=
  LR μ La A ∧ μ 101 4 = La ∧ μ 101 5 = 98 ∧ μ 101 6 = g ∧ rowOk μ ∧ xF μ = D ∧
  (∀ l d, 0 ≤ l → l < A 2 → 0 ≤ d → d ≤ 6 → μ 102 (l * 7 + d) = mayM A l d (A 66) (A 65) ∧ μ 103 (l * 7 + d) = wornM A l d (A 66)) ∧
  (∀ l, 0 ≤ l → l < A 2 → μ 104 l = dv l ∧ 0 ≤ dv l ∧ dv l ≤ 6)
theorem CS_co {A dv D : Int → Int} {La g : Int} {μ μ' : Mem} (hL : isL La) (h : CS A dv D La g μ) (s : ∀ c i, c ≠ 105 → μ' c i = μ c i) : CS A dv D La g μ' := by
  have hLo := hL
  unfold isL at hLo
  obtain ⟨h1, h2, h3, h4, h5, h6, h7, h8⟩ := h
  refine ⟨LR_co hL (fun c i _ _ _ => s c i (by omega)) h1, by rw [s 101 4 (by decide)]; exact h2, by rw [s 101 5 (by decide)]; exact h3, by rw [s 101 6 (by decide)]; exact h4, ?_, ?_, ?_, ?_⟩
  · intro k k0 k7; rw [s 100 k (by decide)]; exact h5 k k0 k7
  · rw [← h6]; funext k; unfold xF; rw [s 100 k (by decide)]
  · intro l d l0 l1 d0 d6; rw [s 102 _ (by decide), s 103 _ (by decide)]; exact h7 l d l0 l1 d0 d6
  · intro l l0 l1; rw [s 104 l (by decide)]; exact h8 l l0 l1
theorem CS_up {A dv D : Int → Int} {La g l w : Int} {μ : Mem} (hL : isL La) (h : CS A dv D La g μ) (w0 : 0 ≤ w) (w6 : w ≤ 6) : CS A (upF dv l w) D La g (ms μ 104 l w) := by
  have hLo := hL
  unfold isL at hLo
  obtain ⟨h1, h2, h3, h4, h5, h6, h7, h8⟩ := h
  refine ⟨LR_co hL (fun c i _ _ _ => ms_nc (by omega)) h1, by rw [ms_nc (by decide)]; exact h2, by rw [ms_nc (by decide)]; exact h3, by rw [ms_nc (by decide)]; exact h4, ?_, ?_, ?_, ?_⟩
  · intro k k0 k7; rw [ms_nc (by decide)]; exact h5 k k0 k7
  · rw [← h6]; funext k; unfold xF; rw [ms_nc (by decide)]
  · intro l d l0 l1 d0 d6; rw [ms_nc (by decide), ms_nc (by decide)]; exact h7 l d l0 l1 d0 d6
  · intro m m0 m1
    by_cases e : m = l
    · rw [e, ms_eq, upF_eq]; exact ⟨rfl, w0, w6⟩
    · rw [ms_ni e, upF_ne e]; exact h8 m m0 m1
theorem isOpenAt_eq {A dv D : Int → Int} {La g l d : Int} {μ : Mem} (h : CS A dv D La g μ) (l0 : 0 ≤ l) (l1 : l < A 2) (d0 : 0 ≤ d) (d6 : d ≤ 6) : f_X8_isOpenAt 101 l d μ = some (mayM A l d (A 66) (A 65), μ) := by
  obtain ⟨h1, _, _, _, _, _, h7, _⟩ := h
  have L9 := h1.2.1.2.2
  have t := (h7 l d l0 l1 d0 d6).1
  unfold f_X8_isOpenAt
  rw [nm_eq, nrm_id (z := l * 7 + d) (by omega) (by omega), if_neg (by omega), if_neg (by show ¬ ((63 : Int) ≤ l * 7 + d); omega), gd_pos (by omega), show (101 + 1 : Int) = 102 from rfl, t]
  rcases mayM_01 A l d (A 66) (A 65) with e | e <;> rw [e]
  · rw [if_pos (by decide : nrm 0 = 0)]
  · rw [if_neg (by decide : ¬ nrm 1 = 0)]
theorem depthBehind_eq {A dv D : Int → Int} {La g l d : Int} {μ : Mem} (h : CS A dv D La g μ) (l0 : 0 ≤ l) (l1 : l < A 2) (d0 : 0 ≤ d) (d6 : d ≤ 6) : f_X8_depthBehind 101 l d μ = some (wornM A l d (A 66), μ) := by
  obtain ⟨h1, _, _, _, _, _, h7, _⟩ := h
  have L9 := h1.2.1.2.2
  have t := (h7 l d l0 l1 d0 d6).2
  unfold f_X8_depthBehind
  rw [nm_eq, nrm_id (z := l * 7 + d) (by omega) (by omega), if_neg (by omega), if_neg (by show ¬ ((63 : Int) ≤ l * 7 + d); omega), gd_pos (by omega), show (101 + 2 : Int) = 103 from rfl, t]
def inT (A dv : Int → Int) (g q m : Int) : Int := if oeM A m g = q ∧ mayM A m (dv m) (A 66) (A 65) ≠ 0 then 1 else 0
theorem into_w {A dv D : Int → Int} {La g p : Int} (hL : isL La) (g0 : 0 ≤ g) (g7 : g < 7) : ∀ (d n : Nat) (l : Int) (μ : Mem), 0 ≤ l → l + d = A 2 → d < n → CS A dv D La g μ →
    ∃ μ', f_X8_pairsFrom_w10 n 101 p l μ = f_X8_pairsFrom_j80 101 p μ' ∧ (∀ c i, c ≠ 105 → μ' c i = μ c i) ∧ (∀ q, 0 ≤ q → q < 7 → μ' 105 q = μ 105 q + sumL (inT A dv g q) d l) := by
  intro d
  induction d with
  | zero =>
    intro n l μ l0 ld hn h
    obtain ⟨n, rfl⟩ : ∃ q, n = q + 1 := ⟨n - 1, by omega⟩
    obtain ⟨h1, h2, _⟩ := h
    have L9 := h1.2.1.2.2
    refine ⟨μ, ?_, fun _ _ _ => rfl, fun q _ _ => by show μ 105 q = μ 105 q + 0; omega⟩
    rw [f_X8_pairsFrom_w10, h2, gd_pos (isL_k hL), h1.2.1.1, nrm_id (z := A 2) (by omega) (by omega), nrm_id (z := l) (by omega) (by omega), if_pos (by omega)]
  | succ d ih =>
    intro n l μ l0 ld hn h
    obtain ⟨n, rfl⟩ : ∃ q, n = q + 1 := ⟨n - 1, by omega⟩
    have hh := h
    obtain ⟨h1, h2, h3, h4, h5, h6, h7, h8⟩ := h
    have L9 := h1.2.1.2.2
    have K7 := h1.1.2.2
    obtain ⟨d1, d2, d3⟩ := h8 l l0 (by omega)
    have ho := oeM_in (k := g) h1 l0 (by omega : l < A 2)
    have m01 := mayM_01 A l (dv l) (A 66) (A 65)
    have hsum : ∀ q, sumL (inT A dv g q) (d + 1) l = inT A dv g q l + sumL (inT A dv g q) d (l + 1) := fun _ => rfl
    have skip : (∀ q, 0 ≤ q → q < 7 → inT A dv g q l = 0) → f_X8_pairsFrom_w10 (n + 1) 101 p l μ = f_X8_pairsFrom_w10 n 101 p (l + 1) μ → ∃ μ', f_X8_pairsFrom_w10 (n + 1) 101 p l μ = f_X8_pairsFrom_j80 101 p μ' ∧ (∀ c i, c ≠ 105 → μ' c i = μ c i) ∧ (∀ q, 0 ≤ q → q < 7 → μ' 105 q = μ 105 q + sumL (inT A dv g q) (d + 1) l) := by
      intro x1 x2
      obtain ⟨μ', y1, y2, y3⟩ := ih n (l + 1) μ (by omega) (by omega) (by omega) hh
      refine ⟨μ', by rw [x2]; exact y1, y2, fun q q0 q7 => ?_⟩
      rw [y3 q q0 q7, hsum, x1 q q0 q7, Int.zero_add]
    have hu : f_X8_pairsFrom_w10 (n + 1) 101 p l μ = if oeM A l g < 0 then f_X8_pairsFrom_w10 n 101 p (l + 1) μ else if mayM A l (dv l) (A 66) (A 65) = 0 then f_X8_pairsFrom_w10 n 101 p (l + 1) μ else f_X8_pairsFrom_w10 n 101 p (l + 1) (ms μ 105 (oeM A l g) (μ 105 (oeM A l g) + 1)) := by
      rw [f_X8_pairsFrom_w10, h2, gd_pos (isL_k hL), h1.2.1.1, nrm_id (z := A 2) (by omega) (by omega), nrm_id (z := l) (by omega) (by omega), if_neg (by omega), if_neg (by show ¬ ((9 : Int) ≤ l); omega), h4, bn_eq (otherEnd_c h1 l0 (by omega) (nrm_id (by omega) (by omega))), nrm_id (z := oeM A l g) (by omega) (by omega)]
      by_cases z : oeM A l g < 0
      · rw [if_pos z, if_pos z]; rfl
      · rw [if_neg z, if_neg z, if_neg (by show ¬ ((7 : Int) ≤ oeM A l g); omega), gd_pos (by omega), show (101 + 3 : Int) = 104 from rfl, d1, bn_eq (isOpenAt_eq hh l0 (by omega) d2 d3), nrm_id (z := mayM A l (dv l) (A 66) (A 65)) (by omega) (by omega), gd_pos (by omega), gd_pos (by omega), nm_eq]
        rfl
    by_cases z : oeM A l g < 0
    · rw [if_pos z] at hu
      exact skip (fun q q0 _ => if_neg (fun x => by have := x.1; omega)) hu
    · rw [if_neg z] at hu
      by_cases y : mayM A l (dv l) (A 66) (A 65) = 0
      · rw [if_pos y] at hu
        exact skip (fun q _ _ => if_neg (fun x => x.2 y)) hu
      · rw [if_neg y] at hu
        have s : ∀ c i, c ≠ 105 → ms μ 105 (oeM A l g) (μ 105 (oeM A l g) + 1) c i = μ c i := fun c i hc => ms_nc hc
        obtain ⟨μ', y1, y2, y3⟩ := ih n (l + 1) _ (by omega) (by omega) (by omega) (CS_co hL hh s)
        refine ⟨μ', by rw [hu]; exact y1, fun c i hc => (y2 c i hc).trans (s c i hc), fun q q0 q7 => ?_⟩
        rw [y3 q q0 q7, hsum]
        by_cases e : q = oeM A l g
        · have : inT A dv g q l = 1 := if_pos ⟨e.symm, y⟩
          rw [this, e, ms_eq]
          omega
        · have : inT A dv g q l = 0 := if_neg (fun x => e x.1.symm)
          rw [this, ms_ni e, Int.zero_add]
def prT (A dv : Int → Int) (g p l : Int) : Int := if oeM A l p ≠ -1 ∧ mayM A l (dv l) (A 66) (A 65) ≠ 0 then sumL (inT A dv g (oeM A l p)) (A 2).toNat 0 + (if p = g ∧ mayM A l (wornM A l (dv l) (A 66)) (A 66) (A 65) = 0 then -1 else 0) else 0
theorem pairs_w {A dv D : Int → Int} {La g p : Int} (hL : isL La) (g0 : 0 ≤ g) (g7 : g < 7) (p0 : 0 ≤ p) (p7 : p < 7) {μ : Mem} (h : CS A dv D La g μ) (hi : ∀ q, 0 ≤ q → q < 7 → μ 105 q = sumL (inT A dv g q) (A 2).toNat 0) :
    ∀ (d n : Nat) (l s : Int), 0 ≤ l → l + d = A 2 → d < n → f_X8_pairsFrom_w84 n 101 p s l μ = some (s + sumL (prT A dv g p) d l, μ) := by
  have hh := h
  obtain ⟨h1, h2, h3, h4, h5, h6, h7, h8⟩ := h
  have L9 := h1.2.1.2.2
  have K7 := h1.1.2.2
  intro d
  induction d with
  | zero =>
    intro n l s l0 ld hn
    obtain ⟨n, rfl⟩ : ∃ q, n = q + 1 := ⟨n - 1, by omega⟩
    rw [f_X8_pairsFrom_w84, h2, gd_pos (isL_k hL), h1.2.1.1, nrm_id (z := A 2) (by omega) (by omega), nrm_id (z := l) (by omega) (by omega), if_pos (by omega)]
    show some (s, μ) = some (s + 0, μ)
    rw [Int.add_zero]
  | succ d ih =>
    intro n l s l0 ld hn
    obtain ⟨n, rfl⟩ : ∃ q, n = q + 1 := ⟨n - 1, by omega⟩
    obtain ⟨d1, d2, d3⟩ := h8 l l0 (by omega)
    have ho := oeM_in (k := p) h1 l0 (by omega : l < A 2)
    have m01 := mayM_01 A l (dv l) (A 66) (A 65)
    have wi := wornM_in (A := A) (l := l) (r := A 66) d2 d3
    have n01 := mayM_01 A l (wornM A l (dv l) (A 66)) (A 66) (A 65)
    have hsum : sumL (prT A dv g p) (d + 1) l = prT A dv g p l + sumL (prT A dv g p) d (l + 1) := rfl
    rw [f_X8_pairsFrom_w84, h2, gd_pos (isL_k hL), h1.2.1.1, nrm_id (z := A 2) (by omega) (by omega), nrm_id (z := l) (by omega) (by omega), if_neg (by omega), if_neg (by show ¬ ((9 : Int) ≤ l); omega), bn_eq (otherEnd_c h1 l0 (by omega) (nrm_id (by omega) (by omega))), nrm_id (z := oeM A l p) (by omega) (by omega), hsum]
    unfold f_X8_pairsFrom_j178
    by_cases z : oeM A l p < 0
    · have : prT A dv g p l = 0 := if_neg (fun q => by have := q.1; omega)
      rw [if_pos z, this, Int.zero_add]
      exact ih n (l + 1) s (by omega) (by omega) (by omega)
    · rw [if_neg z, if_neg (by show ¬ ((7 : Int) ≤ oeM A l p); omega), gd_pos (by omega), show (101 + 3 : Int) = 104 from rfl, d1, bn_eq (isOpenAt_eq hh l0 (by omega) d2 d3), nrm_id (z := mayM A l (dv l) (A 66) (A 65)) (by omega) (by omega)]
      by_cases y : mayM A l (dv l) (A 66) (A 65) = 0
      · have : prT A dv g p l = 0 := if_neg (fun q => q.2 y)
        rw [if_pos y, this, Int.zero_add]
        exact ih n (l + 1) s (by omega) (by omega) (by omega)
      · have hp : prT A dv g p l = sumL (inT A dv g (oeM A l p)) (A 2).toNat 0 + (if p = g ∧ mayM A l (wornM A l (dv l) (A 66)) (A 66) (A 65) = 0 then -1 else 0) := if_pos ⟨by omega, y⟩
        rw [if_neg y, gd_pos (by omega), nm_eq, show (101 + 4 : Int) = 105 from rfl, hi _ (by omega) (by omega), h4, nrm_id (z := p) (by omega) (by omega), nrm_id (z := g) (by omega) (by omega), gd_pos (by omega), d1, bn_eq (depthBehind_eq hh l0 (by omega) d2 d3), bn_eq (isOpenAt_eq hh l0 (by omega) wi.1 wi.2), nrm_id (z := mayM A l (wornM A l (dv l) (A 66)) (A 66) (A 65)) (by omega) (by omega), hp]
        by_cases e : p = g
        · rw [if_pos e]
          by_cases x : mayM A l (wornM A l (dv l) (A 66)) (A 66) (A 65) = 0
          · rw [if_pos x, if_pos ⟨e, x⟩, ih n (l + 1) _ (by omega) (by omega) (by omega)]
            congr 2
            omega
          · rw [if_neg x, if_neg (fun q => x q.2), ih n (l + 1) _ (by omega) (by omega) (by omega)]
            congr 2
            omega
        · rw [if_neg e, if_neg (fun q => e q.1), ih n (l + 1) _ (by omega) (by omega) (by omega)]
          congr 2
          omega
theorem sumL_up {f f' : Int → Int} {k x : Int} : ∀ (d : Nat) (l : Int), l ≤ k → k < l + d → (∀ m, m ≠ k → f' m = f m) → f' k = f k + x → sumL f' d l = sumL f d l + x
  | 0, l, h1, h2, _, _ => by omega
  | d + 1, l, h1, h2, h3, h4 => by
    unfold sumL
    by_cases e : l = k
    · subst e
      rw [h4, sumL_cg d (l + 1) (fun m m1 m2 => h3 m (by omega))]
      omega
    · rw [h3 l e, sumL_up d (l + 1) (by omega) (by omega) h3 h4]
      omega
theorem oe_sym {A : Int → Int} {m a b : Int} (ne : A (11 + m) ≠ A (20 + m)) (a0 : 0 ≤ a) (b0 : 0 ≤ b) : oeM A m a = b ↔ oeM A m b = a := by
  have key : ∀ a b : Int, 0 ≤ a → 0 ≤ b → oeM A m a = b → oeM A m b = a := by
    intro a b a0 b0 h
    unfold oeM at h ⊢
    by_cases e : A (11 + m) = a
    · rw [if_pos e] at h
      rw [if_neg (by omega), if_pos h, e]
    · rw [if_neg e] at h
      by_cases e2 : A (20 + m) = a
      · rw [if_pos e2] at h
        rw [if_pos h, e2]
      · rw [if_neg e2] at h
        omega
  exact ⟨key a b a0 b0, key b a b0 a0⟩
/-- Rows of two lanes are what the pairs give. -/
theorem pr_rw {A dv : Int → Int} {μ : Mem} {La g p l : Int} (hR : LR μ La A) (g0 : 0 ≤ g) (p0 : 0 ≤ p) (l0 : 0 ≤ l) (l1 : l < A 2) : prT A dv g p l = rwT A g 1 dv p l := by
  have g6 := hR.2.2.2.2.2.1
  unfold prT rwT
  by_cases c : oeM A l p ≠ -1 ∧ mayM A l (dv l) (A 66) (A 65) ≠ 0
  · rw [if_pos c, if_pos c]
    have hoi := oeM_in (k := p) hR l0 l1
    generalize hq : oeM A l p = q at c hoi
    have q0 : 0 ≤ q := by omega
    -- one lane on, with other depths
    have one : ∀ dv' : Int → Int, rwM A g 1 dv' q = sumL (inT A dv' g q) (A 2).toNat 0 := by
      intro dv'
      rw [rwM_s]
      apply sumL_cg
      intro m m0 m1
      obtain ⟨_, _, _, _, _, _, ne, _⟩ := g6 m m0 (by omega)
      unfold rwT inT
      have sy := oe_sym (A := A) (m := m) ne q0 g0
      by_cases x : oeM A m g = q
      · have x2 := sy.mpr x
        by_cases y : mayM A m (dv' m) (A 66) (A 65) ≠ 0
        · rw [if_pos ⟨by omega, y⟩, if_pos ⟨x, y⟩]
          show (if oeM A m q = g then (1 : Int) else 0) = 1
          rw [if_pos x2]
        · rw [if_neg (fun z => y z.2), if_neg (fun z => y z.2)]
      · rw [if_neg (show ¬ (oeM A m g = q ∧ mayM A m (dv' m) (A 66) (A 65) ≠ 0) from fun z => x z.1)]
        by_cases y : oeM A m q ≠ -1 ∧ mayM A m (dv' m) (A 66) (A 65) ≠ 0
        · rw [if_pos y]
          show (if oeM A m q = g then (1 : Int) else 0) = 0
          rw [if_neg (fun z => x (sy.mp z))]
        · rw [if_neg y]
    rw [one]
    obtain ⟨_, _, _, _, _, _, ne, _⟩ := g6 l l0 l1
    have up : ∀ m, m ≠ l → inT A (upF dv l (wornM A l (dv l) (A 66))) g q m = inT A dv g q m := by
      intro m hm
      unfold inT
      rw [upF_ne hm]
    by_cases e : p = g
    · have f1 : inT A dv g q l = 1 := if_pos ⟨by rw [← e]; exact hq, c.2⟩
      by_cases x : mayM A l (wornM A l (dv l) (A 66)) (A 66) (A 65) = 0
      · have f2 : inT A (upF dv l (wornM A l (dv l) (A 66))) g q l = 0 := by
          unfold inT
          rw [upF_eq, if_neg (fun z => z.2 x)]
        rw [if_pos ⟨e, x⟩, sumL_up (f := inT A dv g q) (k := l) (x := -1) (A 2).toNat 0 l0 (by omega) up (by rw [f1, f2]; rfl)]
      · have f2 : inT A (upF dv l (wornM A l (dv l) (A 66))) g q l = 1 := by
          unfold inT
          rw [upF_eq, if_pos ⟨by rw [← e]; exact hq, x⟩]
        rw [if_neg (fun z => x z.2), sumL_up (f := inT A dv g q) (k := l) (x := 0) (A 2).toNat 0 l0 (by omega) up (by rw [f1, f2]; rfl)]
    · have no : oeM A l g ≠ q := by
        intro z
        have s1 := (oe_sym (A := A) (m := l) ne p0 q0).mp hq
        have s2 := (oe_sym (A := A) (m := l) ne g0 q0).mp z
        omega
      have f1 : inT A dv g q l = 0 := if_neg (fun z => no z.1)
      have f2 : inT A (upF dv l (wornM A l (dv l) (A 66))) g q l = 0 := if_neg (fun z => no z.1)
      rw [if_neg (fun z => e z.1), sumL_up (f := inT A dv g q) (k := l) (x := 0) (A 2).toNat 0 l0 (by omega) up (by rw [f1, f2]; rfl)]
  · rw [if_neg c, if_neg c]
theorem pairs_eq {A dv D : Int → Int} {La g p : Int} {μ : Mem} (hL : isL La) (g0 : 0 ≤ g) (g7 : g < 7) (p0 : 0 ≤ p) (p7 : p < 7) (h : CS A dv D La g μ) : ∃ μ', f_X8_pairsFrom 101 p μ = some (rwM A g 2 dv p, μ') ∧ (∀ c i, c ≠ 105 → μ' c i = μ c i) := by
  have h2 := h.1.2.1
  have s1 : ∀ c i, c ≠ 105 → flm μ 105 0 ((7 : Nat) : Int) 0 c i = μ c i := fun c i hc => flm_nc hc
  have hc1 := CS_co hL h s1
  obtain ⟨μ2, y1, y2, y3⟩ := into_w (p := p) hL g0 g7 (A 2).toNat FU 0 _ (by decide) (by omega) (by unfold FU; omega) hc1
  have hc2 := CS_co hL hc1 y2
  have hi : ∀ q, 0 ≤ q → q < 7 → μ2 105 q = sumL (inT A dv g q) (A 2).toNat 0 := by
    intro q q0 q7
    rw [y3 q q0 q7, flm_in q0 (by omega), Int.zero_add]
  have hp := pairs_w hL g0 g7 p0 p7 hc2 hi (A 2).toNat FU 0 0 (by decide) (by omega) (by unfold FU; omega)
  refine ⟨μ2, ?_, fun c i hc => (y2 c i hc).trans (s1 c i hc)⟩
  unfold f_X8_pairsFrom
  rw [show (101 + 4 : Int) = 105 from rfl, bn_eq (fill_i (n := 7) (by decide) (by decide) (by decide) μ), y1]
  unfold f_X8_pairsFrom_j80
  rw [hp, Int.zero_add]
  congr 2
  show _ = sumL (rwT A g 1 dv p) (A 2).toNat 0
  exact sumL_cg _ _ (fun k k0 k1 => pr_rw h.1 g0 p0 k0 (by omega))
theorem rows_cl {A dv D : Int → Int} {La p g : Int} {n : Nat} {rec : Nat → Int → Int → Int → Mem → Option (Int × Mem)} (hL : isL La) (p0 : 0 ≤ p) (p7 : p < 7) (ho : opn A dv)
    (hrec : ∀ dv' q μ, CS A dv' D La g μ → opn A dv' → 0 ≤ q → q < 7 → ∃ μ', rec 0 101 q (n : Int) μ = some (rwM A g n dv' q, μ') ∧ (∀ c i, c ≠ 105 → μ' c i = μ c i)) :
    ∀ (d m : Nat) (l s : Int) (μ : Mem), 0 ≤ l → l + d = A 2 → d < m → CS A dv D La g μ → ∃ μ', f_X8_rowsFrom_w50 rec m 101 p ((n : Int) + 1) s l μ = some (s + sumL (rwT A g n dv p) d l, μ') ∧ (∀ c i, c ≠ 105 → μ' c i = μ c i) := by
  intro d
  induction d with
  | zero =>
    intro m l s μ l0 ld hm h
    obtain ⟨m, rfl⟩ : ∃ q, m = q + 1 := ⟨m - 1, by omega⟩
    obtain ⟨h1, h2, _⟩ := h
    have L9 := h1.2.1.2.2
    refine ⟨μ, ?_, fun _ _ _ => rfl⟩
    rw [f_X8_rowsFrom_w50, h2, gd_pos (isL_k hL), h1.2.1.1, nrm_id (z := A 2) (by omega) (by omega), nrm_id (z := l) (by omega) (by omega), if_pos (by omega)]
    show some (s, μ) = some (s + 0, μ)
    rw [Int.add_zero]
  | succ d ih =>
    intro m l s μ l0 ld hm h
    obtain ⟨m, rfl⟩ : ∃ q, m = q + 1 := ⟨m - 1, by omega⟩
    have hh := h
    obtain ⟨h1, h2, h3, h4, h5, h6, h7, h8⟩ := h
    have L9 := h1.2.1.2.2
    have K7 := h1.1.2.2
    obtain ⟨d1, d2, d3⟩ := h8 l l0 (by omega)
    have hoi := oeM_in (k := p) h1 l0 (by omega : l < A 2)
    have m01 := mayM_01 A l (dv l) (A 66) (A 65)
    have wi := wornM_in (A := A) (l := l) (r := A 66) d2 d3
    have hsum : sumL (rwT A g n dv p) (d + 1) l = rwT A g n dv p l + sumL (rwT A g n dv p) d (l + 1) := rfl
    rw [f_X8_rowsFrom_w50, h2, gd_pos (isL_k hL), h1.2.1.1, nrm_id (z := A 2) (by omega) (by omega), nrm_id (z := l) (by omega) (by omega), if_neg (by omega), if_neg (by show ¬ ((9 : Int) ≤ l); omega), bn_eq (otherEnd_c h1 l0 (by omega) (nrm_id (by omega) (by omega))), gd_pos (by omega), nm_eq, show (101 + 3 : Int) = 104 from rfl, d1, nrm_id (z := oeM A l p) (by omega) (by omega), show nrm (-1) = -1 from rfl, hsum]
    unfold f_X8_rowsFrom_j145
    by_cases z : oeM A l p = -1
    · have ht : rwT A g n dv p l = 0 := if_neg (fun q => q.1 z)
      rw [if_pos z, ht, Int.zero_add]
      exact ih m (l + 1) s μ (by omega) (by omega) (by omega) hh
    · rw [if_neg z, bn_eq (isOpenAt_eq hh l0 (by omega) d2 d3), nrm_id (z := mayM A l (dv l) (A 66) (A 65)) (by omega) (by omega)]
      by_cases y : mayM A l (dv l) (A 66) (A 65) = 0
      · have ht : rwT A g n dv p l = 0 := if_neg (fun q => q.2 y)
        rw [if_pos y, ht, Int.zero_add]
        exact ih m (l + 1) s μ (by omega) (by omega) (by omega) hh
      · have ht : rwT A g n dv p l = rwM A g n (upF dv l (wornM A l (dv l) (A 66))) (oeM A l p) := if_pos ⟨z, y⟩
        obtain ⟨μ2, r1, r2⟩ := hrec (upF dv l (wornM A l (dv l) (A 66))) (oeM A l p) (ms μ 104 l (wornM A l (dv l) (A 66))) (CS_up hL hh wi.1 wi.2) (opn_up ho (ho l l0 (by omega) y)) (by omega) (by omega)
        rw [if_neg y, bn_eq (depthBehind_eq hh l0 (by omega) d2 d3), gd_pos (by omega), nm_eq, show (n : Int) + 1 - 1 = (n : Int) by omega, bn_eq r1, nm_eq, gd_pos (by omega), nm_eq]
        have s5 : ∀ c i, c ≠ 105 → ms μ2 104 l (dv l) c i = μ c i := by
          intro c i x1
          by_cases e : c = 104 ∧ i = l
          · rw [e.1, e.2, ms_eq, d1]
          · rw [ms_at, if_neg e, r2 c i x1, ms_at, if_neg e]
        obtain ⟨μ', y1, y2⟩ := ih m (l + 1) (s + rwM A g n (upF dv l (wornM A l (dv l) (A 66))) (oeM A l p)) (ms μ2 104 l (dv l)) (by omega) (by omega) (by omega) (CS_co hL hh s5)
        refine ⟨μ', ?_, fun c i hc => (y2 c i hc).trans (s5 c i hc)⟩
        rw [y1, ht, Int.add_assoc]
theorem D_zero {μ : Mem} {La g p : Int} {A w D : Int → Int} (hR : LR μ La A) (hw : okW A w) (hD : isD (EdG A w) g D) (p0 : 0 ≤ p) (p7 : p < 7) (h : D p = 0) : p = g := by
  apply Classical.byContradiction
  intro hn
  obtain ⟨e, x1, x2, x3, x4⟩ := hD.1.2.2.1 p p0 p7 hn (by rw [h]; decide)
  obtain ⟨o1, _, o3, o4, _⟩ := EdG_ok hR hw e x1
  have := hD.1.2.1 e.2.1 o3 o4
  omega
theorem rows_c {A D : Int → Int} {La g : Int} (hL : isL La) (g0 : 0 ≤ g) (g7 : g < 7) (hD : isD (EdG A (wO A)) g D) : ∀ (n fu : Nat) (dv : Int → Int) (p : Int) (μ : Mem), n ≤ 6 → n < fu → CS A dv D La g μ → opn A dv → 0 ≤ p → p < 7 → ∃ μ', g_X8_rowsFrom fu 0 101 p (n : Int) μ = some (rwM A g n dv p, μ') ∧ (∀ c i, c ≠ 105 → μ' c i = μ c i) := by
  intro n
  induction n with
  | zero =>
    intro fu dv p μ hn hf h ho p0 p7
    obtain ⟨fu, rfl⟩ : ∃ q, fu = q + 1 := ⟨fu - 1, by omega⟩
    obtain ⟨h1, h2, h3, h4, h5, h6, h7, h8⟩ := id h
    have rp := h5 p p0 p7
    have fa := rw_far h1 g0 g7 hD 0 dv p p0 p7 ho
    have dp : D p = xf (μ 100 p) := by rw [← h6]; rfl
    refine ⟨μ, ?_, fun _ _ _ => rfl⟩
    show b_X8_rowsFrom (g_X8_rowsFrom fu) 101 p ((0 : Nat) : Int) μ = _
    unfold b_X8_rowsFrom
    rw [h3, gd_pos (by decide), bn_eq (farFrom_eq μ p0 p7), nrm_id (z := μ 100 p) (by omega) (by omega), show nrm (-1) = -1 from rfl, show nrm ((0 : Nat) : Int) = 0 from rfl]
    by_cases z : μ 100 p = -1
    · rw [if_pos z, fa (.inl (by rw [dp]; exact (xf_far rp).mpr z))]
    · have dp2 : D p = μ 100 p := by rw [dp]; exact if_neg z
      rw [if_neg z]
      by_cases y : 0 < μ 100 p
      · rw [if_pos y, fa (.inr (by omega))]
      · have pg := D_zero h1 (wO_ok A) hD p0 p7 (by omega)
        rw [if_neg y, if_pos (by decide : (0 : Int) ≤ nrm 6), if_neg (by decide : ¬ (0 : Int) < 0)]
        show some ((1 : Int), μ) = some (if p = g then 1 else 0, μ)
        rw [if_pos pg]
  | succ n ih =>
    intro fu dv p μ hn hf h ho p0 p7
    obtain ⟨fu, rfl⟩ : ∃ q, fu = q + 1 := ⟨fu - 1, by omega⟩
    obtain ⟨h1, h2, h3, h4, h5, h6, h7, h8⟩ := id h
    have hl2 := h1.2.1
    have rp := h5 p p0 p7
    have fa := rw_far h1 g0 g7 hD (n + 1) dv p p0 p7 ho
    have dp : D p = xf (μ 100 p) := by rw [← h6]; rfl
    show ∃ μ', b_X8_rowsFrom (g_X8_rowsFrom fu) 101 p ((n + 1 : Nat) : Int) μ = _ ∧ _
    unfold b_X8_rowsFrom
    rw [h3, gd_pos (by decide), bn_eq (farFrom_eq μ p0 p7), nrm_id (z := μ 100 p) (by omega) (by omega), show nrm (-1) = -1 from rfl, nrm_id (z := ((n + 1 : Nat) : Int)) (by omega) (by omega), show nrm 6 = 6 from rfl, show nrm 2 = 2 from rfl]
    by_cases z : μ 100 p = -1
    · rw [if_pos z, fa (.inl (by rw [dp]; exact (xf_far rp).mpr z))]
      exact ⟨μ, rfl, fun _ _ _ => rfl⟩
    · have dp2 : D p = μ 100 p := by rw [dp]; exact if_neg z
      rw [if_neg z]
      by_cases y : ((n + 1 : Nat) : Int) < μ 100 p
      · rw [if_pos y, fa (.inr (by omega))]
        exact ⟨μ, rfl, fun _ _ _ => rfl⟩
      · rw [if_neg y, if_pos (by omega), if_pos (by omega)]
        by_cases e : ((n + 1 : Nat) : Int) = 2
        · obtain rfl : n = 1 := by omega
          obtain ⟨μ2, y1, y2⟩ := pairs_eq hL g0 g7 p0 p7 h
          rw [if_pos e, bn_eq y1]
          exact ⟨μ2, rfl, y2⟩
        · obtain ⟨μ2, y1, y2⟩ := rows_cl (rec := g_X8_rowsFrom fu) (n := n) hL p0 p7 ho (fun dv' q μ x1 x2 x3 x4 => ih fu dv' q μ (by omega) (by omega) x1 x2 x3 x4) (A 2).toNat FU 0 0 μ (by decide) (by omega) (by unfold FU; omega) h
          rw [if_neg e, show ((n + 1 : Nat) : Int) = (n : Int) + 1 by omega, y1, rwM_s, Int.zero_add]
          exact ⟨μ2, rfl, y2⟩
