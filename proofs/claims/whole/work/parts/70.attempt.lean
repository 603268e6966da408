/-- Of the first k rains of a set, how many by which it becomes as deep. -/
def cntU (f : Int → Int) (set depth : Int) : Nat → Int
  | 0 => 0
  | k + 1 => cntU f set depth k + (if tb set k = true ∧ f k = depth then 1 else 0)
theorem cntU_in (f : Int → Int) (set depth : Int) : ∀ k : Nat, 0 ≤ cntU f set depth k ∧ cntU f set depth k ≤ k
  | 0 => ⟨Int.le_refl _, Int.le_refl _⟩
  | k + 1 => by
    have := cntU_in f set depth k
    unfold cntU
    split <;> omega
/-- The greatest of all seven counts. -/
def isMost (c : Int → Int) (e g : Int) : Prop := 0 ≤ g ∧ (∀ d, 0 ≤ d → d < e → c d ≤ g) ∧ (g = 0 ∨ ∃ d, 0 ≤ d ∧ d < e ∧ c d = g)
theorem isMost_eq {c : Int → Int} {e g h : Int} (x : isMost c e g) (y : isMost c e h) : g = h := by
  obtain ⟨x1, x2, x3⟩ := x
  obtain ⟨y1, y2, y3⟩ := y
  have a : g ≤ h := by
    rcases x3 with q | ⟨d, d0, d1, d2⟩
    · omega
    · have := y2 d d0 d1; omega
  have b : h ≤ g := by
    rcases y3 with q | ⟨d, d0, d1, d2⟩
    · omega
    · have := x2 d d0 d1; omega
  omega
/-- The seven counts in one number, four bits each. -/
def packU (c : Int → Int) : Int := c 0 + 16 * c 1 + 256 * c 2 + 4096 * c 3 + 65536 * c 4 + 1048576 * c 5 + 16777216 * c 6
theorem pack_in {c : Int → Int} (h : ∀ q, 0 ≤ c q ∧ c q ≤ 10) : 0 ≤ packU c ∧ packU c < 268435456 := by
  have h0 := h 0
  have h1 := h 1
  have h2 := h 2
  have h3 := h 3
  have h4 := h 4
  have h5 := h 5
  have h6 := h 6
  unfold packU
  omega
/-- A count is read out of its four bits. -/
theorem pack_digit {c : Int → Int} (h : ∀ q, 0 ≤ c q ∧ c q ≤ 10) {q : Int} (q0 : 0 ≤ q) (q6 : q ≤ 6) : jand (jshr (packU c) (4 * q)) 15 = c q := by
  have b := pack_in h
  obtain ⟨a, ha⟩ : ∃ a : Nat, packU c = a := ⟨(packU c).toNat, by omega⟩
  obtain ⟨k, rfl⟩ : ∃ k : Nat, q = k := ⟨q.toNat, by omega⟩
  have e := Nat.and_two_pow_sub_one_eq_mod (a >>> (4 * k)) 4
  have lt : a >>> (4 * k) < 2147483648 := by
    rw [Nat.shiftRight_eq_div_pow]
    exact Nat.lt_of_le_of_lt (Nat.div_le_self _ _) (by omega)
  have e2 : jand (jshr (packU c) (4 * (k : Int))) 15 = ((a / 2 ^ (4 * k) % 2 ^ 4 : Nat) : Int) := by
    rw [ha, show (4 * (k : Int)) = ((4 * k : Nat) : Int) by omega, jshr_n a (4 * k) (by omega) (by omega), show (15 : Int) = ((2 ^ 4 - 1 : Nat) : Int) from rfl, jand_n _ _ lt (by decide), e, Nat.shiftRight_eq_div_pow]
  rw [e2]
  clear e e2 lt
  unfold packU at ha
  have h0 := h 0
  have h1 := h 1
  have h2 := h 2
  have h3 := h 3
  have h4 := h 4
  have h5 := h 5
  have h6 := h 6
  clear h
  rcases (by omega : k = 0 ∨ k = 1 ∨ k = 2 ∨ k = 3 ∨ k = 4 ∨ k = 5 ∨ k = 6) with rfl | rfl | rfl | rfl | rfl | rfl | rfl
  · show ((a / 1 % 16 : Nat) : Int) = c 0
    omega
  · show ((a / 16 % 16 : Nat) : Int) = c 1
    omega
  · show ((a / 256 % 16 : Nat) : Int) = c 2
    omega
  · show ((a / 4096 % 16 : Nat) : Int) = c 3
    omega
  · show ((a / 65536 % 16 : Nat) : Int) = c 4
    omega
  · show ((a / 1048576 % 16 : Nat) : Int) = c 5
    omega
  · show ((a / 16777216 % 16 : Nat) : Int) = c 6
    omega
/-- One rain more of the set. -/
theorem pack_step {f : Int → Int} {set : Int} {k : Nat} (w0 : 0 ≤ f k) (w6 : f k ≤ 6) (e : tb set k = true) : packU (fun q => cntU f set q k) + jshl 1 (4 * f k) = packU (fun q => cntU f set q (k + 1)) := by
  have hp : ∀ q, f k = q → cntU f set q (k + 1) = cntU f set q k + 1 := by
    intro q e2
    rw [cntU, if_pos ⟨e, e2⟩]
  have hn : ∀ q, f k ≠ q → cntU f set q (k + 1) = cntU f set q k := by
    intro q e2
    rw [cntU, if_neg (fun x => e2 x.2), Int.add_zero]
  unfold packU
  dsimp only
  rcases (by omega : f k = 0 ∨ f k = 1 ∨ f k = 2 ∨ f k = 3 ∨ f k = 4 ∨ f k = 5 ∨ f k = 6) with h | h | h | h | h | h | h
  · rw [show jshl 1 (4 * f k) = 1 by rw [h]; decide +kernel, hp 0 h, hn 1 (by omega), hn 2 (by omega), hn 3 (by omega), hn 4 (by omega), hn 5 (by omega), hn 6 (by omega)]
    omega
  · rw [show jshl 1 (4 * f k) = 16 by rw [h]; decide +kernel, hn 0 (by omega), hp 1 h, hn 2 (by omega), hn 3 (by omega), hn 4 (by omega), hn 5 (by omega), hn 6 (by omega)]
    omega
  · rw [show jshl 1 (4 * f k) = 256 by rw [h]; decide +kernel, hn 0 (by omega), hn 1 (by omega), hp 2 h, hn 3 (by omega), hn 4 (by omega), hn 5 (by omega), hn 6 (by omega)]
    omega
  · rw [show jshl 1 (4 * f k) = 4096 by rw [h]; decide +kernel, hn 0 (by omega), hn 1 (by omega), hn 2 (by omega), hp 3 h, hn 4 (by omega), hn 5 (by omega), hn 6 (by omega)]
    omega
  · rw [show jshl 1 (4 * f k) = 65536 by rw [h]; decide +kernel, hn 0 (by omega), hn 1 (by omega), hn 2 (by omega), hn 3 (by omega), hp 4 h, hn 5 (by omega), hn 6 (by omega)]
    omega
  · rw [show jshl 1 (4 * f k) = 1048576 by rw [h]; decide +kernel, hn 0 (by omega), hn 1 (by omega), hn 2 (by omega), hn 3 (by omega), hn 4 (by omega), hp 5 h, hn 6 (by omega)]
    omega
  · rw [show jshl 1 (4 * f k) = 16777216 by rw [h]; decide +kernel, hn 0 (by omega), hn 1 (by omega), hn 2 (by omega), hn 3 (by omega), hn 4 (by omega), hn 5 (by omega), hp 6 h]
    omega
theorem pack_skip {f : Int → Int} {set : Int} {k : Nat} (e : ¬ tb set k = true) : packU (fun q => cntU f set q k) = packU (fun q => cntU f set q (k + 1)) := by
  have hn : ∀ q, cntU f set q (k + 1) = cntU f set q k := by
    intro q
    rw [cntU, if_neg (fun x => e x.1), Int.add_zero]
  unfold packU
  dsimp only
  rw [hn 0, hn 1, hn 2, hn 3, hn 4, hn 5, hn 6]
theorem alike_c {l set : Int} {ρ : Mem} (l0 : 0 ≤ l) (l1 : l < ρ 112 2) (s0 : 0 ≤ set) (s1 : set < 2 ^ 10) :
    ∀ (d k n : Nat) (μ : Mem), k + d = 10 → d < n → JR μ 58 ρ →
    ∃ μ', f_X11_mostAlike_w5 n 0 l set (packU (fun q => cntU (WV (rowA ρ 0) l) set q k)) k μ = f_X11_mostAlike_w47 FU (packU (fun q => cntU (WV (rowA ρ 0) l) set q 10)) 0 0 μ' ∧ SaC μ μ' := by
  intro d
  induction d with
  | zero =>
    intro k n μ hk hn j
    obtain ⟨n, rfl⟩ : ∃ q, n = q + 1 := ⟨n - 1, by omega⟩
    obtain rfl : k = 10 := by omega
    refine ⟨μ, ?_, SaC_rfl μ⟩
    rw [f_X11_mostAlike_w5, if_pos (by decide)]
  | succ d ih =>
    intro k n μ hk hn j
    obtain ⟨n, rfl⟩ : ∃ q, n = q + 1 := ⟨n - 1, by omega⟩
    have w := WV_in (r := (k : Int)) j l0 l1
    have hk1 : ((k + 1 : Nat) : Int) = (k : Int) + 1 := by omega
    by_cases e1 : tb set k = true
    · obtain ⟨μ2, p1, p2⟩ := wornByRain_eq (r := (k : Int)) j l0 l1 (by omega) (by omega)
      obtain ⟨j2, _⟩ := JR_sa p2 (SaR_rfl ρ) j
      obtain ⟨μ3, q1, q2⟩ := ih (k + 1) n μ2 (by omega) (by omega) j2
      refine ⟨μ3, ?_, SaC_tr p2 q2⟩
      rw [← pack_step (f := WV (rowA ρ 0) l) w.1 w.2 e1, hk1] at q1
      generalize packU (fun q => cntU (WV (rowA ρ 0) l) set q k) = X at q1 ⊢
      rw [f_X11_mostAlike_w5, nrm_id (z := (k : Int)) (by omega) (by omega), if_neg (by show ¬ ((9 : Int) < k); omega), jbit s0 (by omega) (by omega) (by omega), if_pos e1, if_neg (by decide : ¬ nrm 1 = 0), bn_eq p1, nm_eq]
      exact q1
    · obtain ⟨μ3, q1, q2⟩ := ih (k + 1) n μ (by omega) (by omega) j
      refine ⟨μ3, ?_, q2⟩
      rw [← pack_skip (f := WV (rowA ρ 0) l) e1, hk1] at q1
      generalize packU (fun q => cntU (WV (rowA ρ 0) l) set q k) = X at q1 ⊢
      rw [f_X11_mostAlike_w5, nrm_id (z := (k : Int)) (by omega) (by omega), if_neg (by show ¬ ((9 : Int) < k); omega), jbit s0 (by omega) (by omega) (by omega), if_neg e1, if_pos (by decide : nrm 0 = 0)]
      exact q1
theorem most_c {c : Int → Int} (h : ∀ q, 0 ≤ c q ∧ c q ≤ 10) (μ : Mem) :
    ∀ (d n : Nat) (most depth : Int), 0 ≤ depth → depth + d = 7 → d < n → most ≤ 10 → isMost c depth most →
    ∃ g, f_X11_mostAlike_w47 n (packU c) most depth μ = some (g, μ) ∧ g ≤ 10 ∧ isMost c 7 g := by
  intro d
  induction d with
  | zero =>
    intro n most depth d0 dd hn m10 hm
    obtain ⟨n, rfl⟩ : ∃ q, n = q + 1 := ⟨n - 1, by omega⟩
    obtain rfl : depth = 7 := by omega
    refine ⟨most, ?_, m10, hm⟩
    rw [f_X11_mostAlike_w47, if_pos (by decide)]
  | succ d ih =>
    intro n most depth d0 dd hn m10 hm
    obtain ⟨n, rfl⟩ : ∃ q, n = q + 1 := ⟨n - 1, by omega⟩
    have h0 := hm.1
    have hc := h depth
    obtain ⟨g, q1, q3, q4⟩ := ih n (if most < c depth then c depth else most) (depth + 1) (by omega) (by omega) (by omega) (by split <;> omega) (by
      obtain ⟨x1, x2, x3⟩ := hm
      refine ⟨by split <;> omega, ?_, ?_⟩
      · intro q q0 q1
        by_cases e : q = depth
        · subst e; split <;> omega
        · have := x2 q q0 (by omega)
          split <;> omega
      · by_cases lt : most < c depth
        · rw [if_pos lt]; exact .inr ⟨depth, d0, by omega, rfl⟩
        · rw [if_neg lt]
          rcases x3 with e | ⟨q, q0, q1, q2⟩
          · exact .inl e
          · exact .inr ⟨q, q0, by omega, q2⟩)
    refine ⟨g, ?_, q3, q4⟩
    rw [f_X11_mostAlike_w47, nrm_id (z := depth) (by omega) (by omega), if_neg (by show ¬ ((6 : Int) < depth); omega), pack_digit h d0 (by omega), bn_eq (max_eq μ (nrm_id (by omega) (by omega)) (nrm_id (by omega) (by omega)))]
    exact q1
theorem often_m {l set : Int} {μ : Mem} {A : Int → Int} (l0 : 0 ≤ l) (l1 : l < A 2) (s0 : 0 ≤ set) (s1 : set < 2 ^ 10) :
    ∀ (d k n : Nat) (g : Int) (ρ : Mem), rowA ρ 0 = A → k + d = 10 → d < n → JR μ 58 ρ → (∀ q, 0 ≤ q → q < 7 → ρ 122 q = cntU (WV A l) set q k) → isMost (fun q => cntU (WV A l) set q k) 7 g → g ≤ 10 →
    ∃ g' ρ', f_X12_mostOften_w29 n 111 l set g k ρ = some (g', ρ') ∧ SaR ρ ρ' ∧ g' ≤ 10 ∧ isMost (fun q => cntU (WV A l) set q 10) 7 g' := by
  intro d
  induction d with
  | zero =>
    intro k n g ρ hA hk hn j ho hg g10
    obtain ⟨n, rfl⟩ : ∃ q, n = q + 1 := ⟨n - 1, by omega⟩
    obtain rfl : k = 10 := by omega
    refine ⟨g, ρ, ?_, SaR_rfl ρ, g10, hg⟩
    rw [f_X12_mostOften_w29, if_pos (by decide)]
  | succ d ih =>
    intro k n g ρ hA hk hn j ho hg g10
    obtain ⟨n, rfl⟩ : ∃ q, n = q + 1 := ⟨n - 1, by omega⟩
    obtain ⟨_, _, _, ⟨L0, L9⟩, _⟩ := now_is j
    have e2 : ρ 112 2 = A 2 := by rw [← hA, rowA_0]
    have w := WV_in (r := (k : Int)) j l0 (by omega)
    rw [hA] at w
    obtain ⟨ρ2, p1, p2⟩ := wornTo_eq (r := (k : Int)) j l0 (by omega) (by omega) (by omega)
    rw [hA] at p1
    have g0 := hg.1
    have hA2 : rowA ρ2 0 = A := by rw [rowA_co (ScW_sa p2)]; exact hA
    by_cases e1 : tb set k = true
    · have o2 : ∀ q, ρ2 122 q = ρ 122 q := fun q => p2 122 q (by decide) (by decide)
      have ho' := ho (WV A l k) w.1 (by omega)
      have c := cntU_in (WV A l) set (WV A l k) k
      have sa : SaR ρ (ms ρ2 122 (WV A l k) (cntU (WV A l) set (WV A l k) k + 1)) := by
        intro c i e
        unfold EssR at e
        rw [ms_nc (by omega), p2 c i (by omega) (by omega)]
      have hA3 : rowA (ms ρ2 122 (WV A l k) (cntU (WV A l) set (WV A l k) k + 1)) 0 = A := by rw [rowA_co sa]; exact hA
      have hu : f_X12_mostOften_w29 (n + 1) 111 l set g k ρ = f_X12_mostOften_w29 n 111 l set (if cntU (WV A l) set (WV A l k) k + 1 ≤ g then g else cntU (WV A l) set (WV A l k) k + 1) (k + 1) (ms ρ2 122 (WV A l k) (cntU (WV A l) set (WV A l k) k + 1)) := by
        rw [f_X12_mostOften_w29, nrm_id (z := (k : Int)) (by omega) (by omega), if_neg (by show ¬ ((10 : Int) ≤ k); omega), nrm_id (z := set) (by omega) (by omega), bn_eq (isIn_eq ρ s0 (by omega) (by omega) (by omega)), e1, if_pos (rfl : true = true), if_neg (by decide : ¬ nrm 1 = 0), nrm_id (z := 56 + l) (by omega) (by omega), gd_pos (by omega), show (111 + 1 : Int) = 112 from rfl, bn_eq p1, nrm_id (z := WV A l k) (by omega) (by omega), gd_pos (by omega), gd_pos (by omega), nm_eq, show (111 + 11 : Int) = 122 from rfl, o2, ho', ms_eq, gd_pos (by omega), gd_pos (by omega), nrm_id (z := g) (by omega) (by omega), nrm_id (z := cntU (WV A l) set (WV A l k) k + 1) (by omega) (by omega)]
        split <;> rfl
      have cs : ∀ q, cntU (WV A l) set q (k + 1) = if q = WV A l k then cntU (WV A l) set q k + 1 else cntU (WV A l) set q k := by
        intro q
        rw [cntU]
        by_cases e : q = WV A l k
        · rw [if_pos ⟨e1, e.symm⟩, if_pos e]
        · rw [if_neg (fun x => e x.2.symm), if_neg e, Int.add_zero]
      obtain ⟨g', ρ3, q1, q2, q3, q4⟩ := ih (k + 1) n (if cntU (WV A l) set (WV A l k) k + 1 ≤ g then g else cntU (WV A l) set (WV A l k) k + 1) _ hA3 (by omega) (by omega) (JR_sa (SaC_rfl μ) sa j).1 (by
          intro q q0 q1
          rw [cs]
          by_cases e : q = WV A l k
          · rw [if_pos e, e, ms_eq]
          · rw [if_neg e, ms_ni e, o2, ho q q0 q1]) (by
          obtain ⟨x1, x2, x3⟩ := hg
          refine ⟨by split <;> omega, ?_, ?_⟩
          · intro q q0 q1
            have := x2 q q0 q1
            dsimp only at this ⊢
            rw [cs]
            by_cases e : q = WV A l k
            · rw [if_pos e, e]
              rw [e] at this
              split <;> omega
            · rw [if_neg e]
              split <;> omega
          · by_cases lt : cntU (WV A l) set (WV A l k) k + 1 ≤ g
            · rw [if_pos lt]
              rcases x3 with e | ⟨q, q0, q1, q2⟩
              · omega
              · refine .inr ⟨q, q0, q1, ?_⟩
                dsimp only at q2 ⊢
                rw [cs, if_neg ?_]
                · exact q2
                · intro e
                  rw [e] at q2
                  omega
            · rw [if_neg lt]
              refine .inr ⟨WV A l k, w.1, by omega, ?_⟩
              dsimp only
              rw [cs, if_pos rfl]) (by split <;> omega)
      refine ⟨g', ρ3, ?_, SaR_tr sa q2, q3, q4⟩
      rw [hu, ← q1]
      rfl
    · have cs : ∀ q, cntU (WV A l) set q (k + 1) = cntU (WV A l) set q k := by
        intro q
        rw [cntU, if_neg (fun x => e1 x.1), Int.add_zero]
      obtain ⟨g', ρ3, q1, q2, q3, q4⟩ := ih (k + 1) n g ρ hA (by omega) (by omega) j (by intro q q0 q1; rw [cs]; exact ho q q0 q1) (by simp only [cs]; exact hg) g10
      refine ⟨g', ρ3, ?_, q2, q3, q4⟩
      rw [f_X12_mostOften_w29, nrm_id (z := (k : Int)) (by omega) (by omega), if_neg (by show ¬ ((10 : Int) ≤ k); omega), nrm_id (z := set) (by omega) (by omega), bn_eq (isIn_eq ρ s0 (by omega) (by omega) (by omega)), if_neg e1, if_pos (by decide : nrm 0 = 0)]
      exact q1
theorem most_m {l set : Int} {μ : Mem} {A : Int → Int} (l0 : 0 ≤ l) (l1 : l < A 2) (s0 : 0 ≤ set) (s1 : set < 2 ^ 10) :
    ∀ (d k n : Nat) (ρ : Mem), rowA ρ 0 = A → k + d = 7 → d < n → JR μ 58 ρ → (∀ q : Int, 0 ≤ q → q < k → ρ 122 q = 0) →
    ∃ g' ρ', f_X12_mostOften_w5 n 111 l set 0 k ρ = some (g', ρ') ∧ SaR ρ ρ' ∧ g' ≤ 10 ∧ isMost (fun q => cntU (WV A l) set q 10) 7 g' := by
  intro d
  induction d with
  | zero =>
    intro k n ρ hA hk hn j ho
    obtain ⟨n, rfl⟩ : ∃ q, n = q + 1 := ⟨n - 1, by omega⟩
    obtain rfl : k = 7 := by omega
    obtain ⟨g', ρ', q1, q2, q3, q4⟩ := often_m (μ := μ) l0 l1 s0 s1 10 0 FU 0 ρ hA (by omega) (by unfold FU; omega) j ho ⟨by decide, fun q _ _ => Int.le_refl _, .inl rfl⟩ (by decide)
    refine ⟨g', ρ', ?_, q2, q3, q4⟩
    rw [f_X12_mostOften_w5, if_pos (by decide)]
    exact q1
  | succ d ih =>
    intro k n ρ hA hk hn j ho
    obtain ⟨n, rfl⟩ : ∃ q, n = q + 1 := ⟨n - 1, by omega⟩
    have sa : SaR ρ (ms ρ 122 k 0) := by
      intro c i e
      unfold EssR at e
      rw [ms_nc (by omega)]
    obtain ⟨g', ρ', q1, q2, q3, q4⟩ := ih (k + 1) n (ms ρ 122 k 0) (by rw [rowA_co sa]; exact hA) (by omega) (by omega) (JR_sa (SaC_rfl μ) sa j).1 (by
      intro q q0 q1
      by_cases e : q = k
      · rw [e, ms_eq]
      · rw [ms_ni e]; exact ho q q0 (by omega))
    refine ⟨g', ρ', ?_, SaR_tr sa q2, q3, q4⟩
    rw [f_X12_mostOften_w5, nrm_id (z := (k : Int)) (by omega) (by omega), if_neg (by show ¬ ((6 : Int) < k); omega), gd_pos (by omega), nm_eq, show (111 + 11 : Int) = 122 from rfl]
    exact q1
theorem mostAlike_eq {l set : Int} {μ ρ : Mem} (j : JR μ 58 ρ) (l0 : 0 ≤ l) (l1 : l < ρ 112 2) (s0 : 0 ≤ set) (s1 : set < 2 ^ 10) : ∃ g μ' ρ', f_X11_mostAlike 0 l set μ = some (g, μ') ∧ f_X12_mostOften 111 l set ρ = some (g, ρ') ∧ SaC μ μ' ∧ SaR ρ ρ' ∧ 0 ≤ g ∧ g ≤ 10 := by
  obtain ⟨μ', p0, p2⟩ := alike_c l0 l1 s0 s1 10 0 FU μ (by omega) (by unfold FU; omega) j
  obtain ⟨g, p1, p3, p4⟩ := most_c (c := fun q => cntU (WV (rowA ρ 0) l) set q 10) (fun q => cntU_in (WV (rowA ρ 0) l) set q 10) μ' 7 FU 0 0 (by decide) (by decide) (by unfold FU; omega) (by decide) ⟨by decide, fun q _ q1 => absurd q1 (by omega), .inl rfl⟩
  rw [← p0, show packU (fun q => cntU (WV (rowA ρ 0) l) set q 0) = 0 from rfl, show ((0 : Nat) : Int) = 0 from rfl] at p1
  obtain ⟨g', ρ', q1, q2, q3, q4⟩ := most_m (μ := μ) (A := rowA ρ 0) l0 (by rw [rowA_0]; exact l1) s0 s1 7 0 FU ρ rfl (by omega) (by unfold FU; omega) j (fun q _ q1 => absurd q1 (by omega))
  have e := isMost_eq p4 q4
  subst e
  exact ⟨g, μ', ρ', p1, q1, p2, q2, p4.1, p3⟩
theorem attempt_w {set : Int} (s0 : 0 ≤ set) (s1 : set < 2 ^ 10) : ∀ (d n m : Nat) (f lc lr l : Int) (μ ρ : Mem), 0 ≤ l → l + d = ρ 112 2 → d < n → d < m → JR μ 58 ρ → ((f = -1 ∧ lr = 268435456) ∨ (0 ≤ f ∧ f < 9 ∧ lr = lc ∧ 0 ≤ lc ∧ lc ≤ 10)) →
    ∃ v μ' ρ', f_X11_attempt_w34 n 0 set f lc l μ = some (v, μ') ∧ f_X12_attempt_w34 m 111 set f lr l ρ = some (v, ρ') ∧ SaC μ μ' ∧ SaR ρ ρ' := by
  intro d
  induction d with
  | zero =>
    intro n m f lc lr l μ ρ l0 ld hn hm j inv
    obtain ⟨n, rfl⟩ : ∃ q, n = q + 1 := ⟨n - 1, by omega⟩
    obtain ⟨m, rfl⟩ : ∃ q, m = q + 1 := ⟨m - 1, by omega⟩
    obtain ⟨hL, _, _, ⟨L0, L9⟩, _, _, hl, _⟩ := now_is j
    refine ⟨f, μ, ρ, ?_, ?_, SaC_rfl μ, SaR_rfl ρ⟩
    · rw [f_X11_attempt_w34, show (0 + 58 : Int) = 58 from rfl, gd_pos (isL_k hL), hl, nrm_id (z := ρ 112 2) (by omega) (by omega), nrm_id (z := l) (by omega) (by omega), if_pos (by omega : ρ 112 2 ≤ l)]
      split <;> rfl
    · rw [f_X12_attempt_w34, show (111 + 1 : Int) = 112 from rfl, nrm_id (z := ρ 112 2) (by omega) (by omega), nrm_id (z := l) (by omega) (by omega), if_pos (by omega)]
  | succ d ih =>
    intro n m f lc lr l μ ρ l0 ld hn hm j inv
    obtain ⟨n, rfl⟩ : ∃ q, n = q + 1 := ⟨n - 1, by omega⟩
    obtain ⟨m, rfl⟩ : ∃ q, m = q + 1 := ⟨m - 1, by omega⟩
    obtain ⟨hL, _, _, ⟨L0, L9⟩, _, _, hl, _⟩ := now_is j
    by_cases z : set = 0
    · refine ⟨f, μ, ρ, ?_, ?_, SaC_rfl μ, SaR_rfl ρ⟩
      · rw [f_X11_attempt_w34, z, if_pos (by decide : nrm 0 = 0)]
      · rw [f_X12_attempt_w34, z, if_pos (by decide : nrm 0 = 0)]
        split <;> rfl
    · obtain ⟨g, μ2, ρ2, p1, p2, p3, p4, g0, g10⟩ := mostAlike_eq j l0 (by omega : l < ρ 112 2) s0 s1
      obtain ⟨j2, _⟩ := JR_sa p3 p4 j
      have e2 : ρ2 112 2 = ρ 112 2 := p4 112 2 (by unfold EssR; omega)
      have hu : f_X11_attempt_w34 (n + 1) 0 set f lc l μ = if f = -1 then f_X11_attempt_w34 n 0 set l g (l + 1) μ2 else if nrm lc ≤ g then f_X11_attempt_w34 n 0 set f lc (l + 1) μ2 else f_X11_attempt_w34 n 0 set l g (l + 1) μ2 := by
        have hf : nrm f = f := nrm_id (by omega) (by omega)
        rw [f_X11_attempt_w34, show (0 + 58 : Int) = 58 from rfl, gd_pos (isL_k hL), hl, nrm_id (z := ρ 112 2) (by omega) (by omega), nrm_id (z := l) (by omega) (by omega), nrm_id (z := set) (by omega) (by omega), if_neg z, if_neg (by omega), bn_eq p1, hf, show nrm (-1) = -1 from rfl, nrm_id (z := g) (by omega) (by omega)]
        rfl
      have hw : f_X12_attempt_w34 (m + 1) 111 set f lr l ρ = if g < lr then f_X12_attempt_w34 m 111 set l g (l + 1) ρ2 else f_X12_attempt_w34 m 111 set f lr (l + 1) ρ2 := by
        rw [f_X12_attempt_w34, show (111 + 1 : Int) = 112 from rfl, nrm_id (z := ρ 112 2) (by omega) (by omega), nrm_id (z := l) (by omega) (by omega), if_neg (by omega), nrm_id (z := set) (by omega) (by omega), if_neg z, bn_eq p2, nrm_id (z := g) (by omega) (by omega), nrm_id (z := lr) (by omega) (by omega)]
        rfl
      have fin : ∀ f' lc' lr', ((f' = -1 ∧ lr' = 268435456) ∨ (0 ≤ f' ∧ f' < 9 ∧ lr' = lc' ∧ 0 ≤ lc' ∧ lc' ≤ 10)) → f_X11_attempt_w34 (n + 1) 0 set f lc l μ = f_X11_attempt_w34 n 0 set f' lc' (l + 1) μ2 → f_X12_attempt_w34 (m + 1) 111 set f lr l ρ = f_X12_attempt_w34 m 111 set f' lr' (l + 1) ρ2 →
          ∃ v μ' ρ', f_X11_attempt_w34 (n + 1) 0 set f lc l μ = some (v, μ') ∧ f_X12_attempt_w34 (m + 1) 111 set f lr l ρ = some (v, ρ') ∧ SaC μ μ' ∧ SaR ρ ρ' := by
        intro f' lc' lr' x1 x2 x3
        obtain ⟨v, μ', ρ', y1, y2, y3, y4⟩ := ih n m f' lc' lr' (l + 1) μ2 ρ2 (by omega) (by omega) (by omega) (by omega) j2 x1
        exact ⟨v, μ', ρ', by rw [x2]; exact y1, by rw [x3]; exact y2, SaC_tr p3 y3, SaR_tr p4 y4⟩
      rcases inv with ⟨i1, i2⟩ | ⟨i1, i2, i3, i4, i5⟩
      · rw [if_pos i1] at hu
        rw [if_pos (by omega)] at hw
        exact fin l g g (.inr ⟨l0, by omega, rfl, g0, g10⟩) hu hw
      · rw [if_neg (by omega), nrm_id (z := lc) (by omega) (by omega)] at hu
        by_cases lt : g < lr
        · rw [if_neg (by omega)] at hu
          rw [if_pos lt] at hw
          exact fin l g g (.inr ⟨l0, by omega, rfl, g0, g10⟩) hu hw
        · rw [if_pos (by omega)] at hu
          rw [if_neg lt] at hw
          exact fin f lc lr (.inr ⟨i1, i2, i3, i4, i5⟩) hu hw
theorem op_attempt (a : Int) (ha : nrm a = a) : Op2 (f_X11_attempt 0 a) (f_X12_attempt 111 a) := by
  intro μ ρ h
  have h' := RR_co (SaC_rfl μ) (SaR_thrown ρ 0) h
  generalize hρ : ms ρ 111 0 0 = ρ1 at h'
  obtain ⟨w, w1, w2, w3, w4⟩ := worn_ok ha h'
  unfold f_X11_attempt f_X12_attempt
  rw [nm_eq, hρ, bn_eq (trayOf_eq μ ha), bn_eq w1, bn_eq w2]
  by_cases z : nrm w = 0
  · have w0 : w = 0 := by
      rcases w3 with e | e
      · exact e
      · exact absurd z e
    obtain ⟨g, q, m1, m2, hV⟩ := w4 w0
    obtain ⟨s, μ2, ρ2, p1, p2, p3, p4, p5, p6⟩ := rains_eq h' g q m1 m2 hV
    have h2 := RR_co p3 p4 h'
    obtain ⟨_, _, _, ⟨L0, L9⟩, _⟩ := now_is (C := 58) (ρ := ρ2) h2.2.2.1
    obtain ⟨v, μ3, ρ3, x1, x2, x3, x4⟩ := attempt_w p5 p6 (ρ2 112 2).toNat FU FU (-1) 0 268435456 0 μ2 ρ2 (by decide) (by omega) (by unfold FU; omega) (by unfold FU; omega) h2.2.2.1 (.inl ⟨rfl, rfl⟩)
    rw [if_pos z, if_pos z, if_pos g, bn_eq p1, bn_eq p2, x1, x2]
    simp only [wp_some]
    exact ⟨trivial, RR_co x3 x4 h2⟩
  · rw [if_neg z, if_neg z]
    simp only [wp_some]
    exact ⟨trivial, h'⟩
