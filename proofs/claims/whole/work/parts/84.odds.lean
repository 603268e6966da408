def SaO (μ μ' : Mem) : Prop := ∀ c i, EssC c i → c ≠ 108 → μ' c i = μ c i
theorem SaO_tr {a b c : Mem} (h : SaO a b) (k : SaO b c) : SaO a c := fun x i e1 e2 => (k x i e1 e2).trans (h x i e1 e2)
theorem SaO_of {μ μ' : Mem} (h : SaC μ μ') : SaO μ μ' := fun c i e _ => h c i e
theorem JR_so {μ μ' ρ : Mem} (s : SaO μ μ') (h : JR μ 58 ρ) : JR μ' 58 ρ ∧ μ' 58 0 = μ 58 0 := by
  have e : μ' 58 0 = μ 58 0 := s 58 0 (by unfold EssC; omega) (by decide)
  refine ⟨?_, e⟩
  obtain ⟨h1, h2, h3⟩ := h
  have hL := h1
  unfold isL at hL
  unfold JR
  rw [e]
  exact ⟨h1, LR_co h1 (fun c i c1 c2 c3 => s c i (by unfold EssC; omega) (by omega)) h2, CR_co (fun i => s 58 i (by unfold EssC; omega) (by decide)) (fun i => s 59 i (by unfold EssC; omega) (by decide)) h3⟩
theorem RR_odd {μ μ' ρ ρ' : Mem} (s : SaO μ μ') (t : SaR ρ ρ') (o : OddR μ') (h : RR μ ρ) : RR μ' ρ' := by
  have h' := RR_co (SaC_rfl μ) t h
  obtain ⟨h1, h2, h3, h4, ⟨h5, h6, h7⟩, h8⟩ := h'
  have aL : ∀ c i, 6 ≤ c → c < 58 → (c - 6) % 13 ≤ 10 → (c - 6) % 13 ≠ 7 → μ' c i = μ c i := fun c i c1 c2 c3 c4 => s c i (by unfold EssC; omega) (by omega)
  have a0 : ∀ i, μ' 0 i = μ 0 i := fun i => s 0 i (by unfold EssC; omega) (by decide)
  have aH : ∀ c i, 58 ≤ c → c ≠ 60 → c ≠ 61 → c ≤ 97 → μ' c i = μ c i := fun c i c1 c2 c3 c4 => s c i (by unfold EssC; omega) (by omega)
  have h9 : ρ' 112 2 ≤ 9 := by
    have := LR_2 h3.2.1
    rw [rowA_0] at this
    exact this
  refine ⟨TapeR_c (a0 1) (fun i => s 1 i (by unfold EssC; omega) (by decide)) rfl (fun _ => rfl) h1, ⟨by rw [a0]; exact h2.1, by rw [a0]; exact h2.2.1, o⟩,
    NowR_c aL (fun i => aH 58 i (by decide) (by decide) (by decide) (by decide)) (fun i => aH 59 i (by decide) (by decide) (by decide) (by decide)) (fun _ _ => rfl) h3,
    HistR_c (aH 58 0 (by decide) (by decide) (by decide) (by decide)) (fun c i c1 c2 => aH c i (by omega) (by omega) (by omega) (by omega)) (fun _ _ => rfl) h9 h4, ⟨?_, ?_, ?_⟩, ?_⟩
  · exact ImgR_c (.inl rfl) aL (fun j => aH _ j (by omega) (by omega) (by omega) (by omega)) (fun j => aH _ j (by omega) (by omega) (by omega) (by omega)) rfl (fun _ _ _ => rfl) h5
  · exact ImgR_c (.inr rfl) aL (fun j => aH _ j (by omega) (by omega) (by omega) (by omega)) (fun j => aH _ j (by omega) (by omega) (by omega) (by omega)) rfl (fun _ _ _ => rfl) h6
  · rw [a0]; exact h7
  · intro i i1 i2
    exact TrayR_c (fun j => aH _ j (by omega) (by omega) (by omega) (by omega)) (fun j => aH _ j (by omega) (by omega) (by omega) (by omega)) rfl rfl (fun _ _ _ => rfl) (h8 i i1 i2)
/-- How likely by a lane; none. -/
def lbM (A P : Int → Int) (k l : Int) : Int := if oeM A l k = -1 ∨ openM A l = 0 then -1 else (10 - A (38 + l)) * P (oeM A l k)
/-- The likeliest of the first n lanes. -/
def mxT (A P : Int → Int) (k : Int) : Nat → Int
  | 0 => 0
  | n + 1 => if mxT A P k n < lbM A P k n then lbM A P k n else mxT A P k n
/-- How likely, in parts of 10 to the power of the lanes that may still be gone by. -/
def lkM (A : Int → Int) (g : Int) : Nat → Int → Int
  | 0, k => if k = g then 1 else 0
  | r + 1, k => if k = g then 10 ^ (r + 1) else mxT A (lkM A g r) k (A 2).toNat
theorem mxT_cg {A P Q : Int → Int} {k : Int} : ∀ n : Nat, (∀ l : Int, 0 ≤ l → l < n → oeM A l k ≠ -1 → P (oeM A l k) = Q (oeM A l k)) → mxT A P k n = mxT A Q k n
  | 0, _ => rfl
  | n + 1, h => by
    have e : lbM A P k n = lbM A Q k n := by
      unfold lbM
      by_cases z : oeM A n k = -1 ∨ openM A n = 0
      · rw [if_pos z, if_pos z]
      · rw [if_neg z, if_neg z, h n (by omega) (by omega) (fun q => z (.inl q))]
    unfold mxT
    rw [e, mxT_cg n (fun l l0 l1 => h l l0 (by omega))]
theorem lb_in {μ : Mem} {La k l M : Int} {A P : Int → Int} (h : LR μ La A) (l0 : 0 ≤ l) (l1 : l < A 2) (hP : ∀ q, 0 ≤ q → q < A 1 → 0 ≤ P q ∧ P q ≤ M) : -1 ≤ lbM A P k l ∧ lbM A P k l ≤ 10 * M ∨ (lbM A P k l = -1) := by
  unfold lbM
  by_cases z : oeM A l k = -1 ∨ openM A l = 0
  · rw [if_pos z]; exact .inr rfl
  · rw [if_neg z]
    have ho := oeM_in (k := k) h l0 l1
    obtain ⟨_, _, _, _, _, g6, _⟩ := h
    obtain ⟨_, _, _, _, _, _, _, _, _, _, _, r1, r2⟩ := g6 l l0 l1
    have z1 : oeM A l k ≠ -1 := fun q => z (.inl q)
    have hp := hP (oeM A l k) (by omega) (by omega)
    have a : 0 ≤ (10 - A (38 + l)) * P (oeM A l k) := Int.mul_nonneg (by omega) hp.1
    have b : (10 - A (38 + l)) * P (oeM A l k) ≤ 10 * M := Int.mul_le_mul (by omega) hp.2 hp.1 (by decide)
    exact .inl ⟨by omega, b⟩
theorem mxT_in {μ : Mem} {La k M : Int} {A P : Int → Int} (h : LR μ La A) (M0 : 0 ≤ M) (hP : ∀ q, 0 ≤ q → q < A 1 → 0 ≤ P q ∧ P q ≤ M) : ∀ n : Nat, (n : Int) ≤ A 2 → 0 ≤ mxT A P k n ∧ mxT A P k n ≤ 10 * M
  | 0, _ => ⟨Int.le_refl _, by show (0 : Int) ≤ 10 * M; omega⟩
  | n + 1, hn => by
    have ih := mxT_in (k := k) h M0 hP n (by omega)
    have lb := lb_in (k := k) h (l := (n : Int)) (by omega) (by omega) hP
    unfold mxT
    split <;> omega
theorem lkM_in {μ : Mem} {La g : Int} {A : Int → Int} (h : LR μ La A) : ∀ (r : Nat) (k : Int), 0 ≤ k → k < A 1 → 0 ≤ lkM A g r k ∧ lkM A g r k ≤ 10 ^ r
  | 0, k, _, _ => by
    unfold lkM
    split <;> decide
  | r + 1, k, k0, k1 => by
    have hp : (0 : Int) ≤ 10 ^ r := Int.pow_nonneg (by decide)
    have e : (10 : Int) ^ (r + 1) = 10 * 10 ^ r := by rw [Int.pow_succ, Int.mul_comm]
    unfold lkM
    by_cases z : k = g
    · rw [if_pos z]; exact ⟨by omega, Int.le_refl _⟩
    · rw [if_neg z, e]
      have l2 := h.2.1
      exact mxT_in h hp (fun q q0 q1 => lkM_in h r q q0 q1) (A 2).toNat (by omega)
theorem pow10 {r : Nat} (h : r ≤ 7) : (1 : Int) ≤ 10 ^ r ∧ (10 : Int) ^ r ≤ 10000000 := by
  rcases (by omega : r = 0 ∨ r = 1 ∨ r = 2 ∨ r = 3 ∨ r = 4 ∨ r = 5 ∨ r = 6 ∨ r = 7) with e | e | e | e | e | e | e | e <;> subst e <;> decide
/-- The two rows, in the class. -/
def oddC (μ : Mem) (cL cB : Int) : Prop := μ 108 0 = cL ∧ μ 108 1 = cB ∧ ((cL = 109 ∧ cB = 110) ∨ (cL = 110 ∧ cB = 109))
theorem oddC_k {μ : Mem} {cL cB : Int} (h : oddC μ cL cB) : isK cL 10007 ∧ isK cB 10007 := by
  rcases h.2.2 with ⟨e1, e2⟩ | ⟨e1, e2⟩ <;> subst e1 <;> subst e2 <;> exact ⟨by decide, by decide⟩
theorem raise_eq {μ : Mem} {cL cB p v : Int} (h : oddC μ cL cB) (p0 : 0 ≤ p) (p7 : p < 7) (h1 : nrm (μ cL p) = μ cL p) (h2 : nrm v = v) : f_X5_raise 108 p v μ = some (0, ms μ cL p (if μ cL p < v then v else μ cL p)) := by
  unfold f_X5_raise
  rw [nrm_id (z := p) (by omega) (by omega), if_neg (by omega), if_neg (by show ¬ ((7 : Int) ≤ p); omega), h.1, gd_pos (oddC_k h).1, gd_pos ⟨p0, p7⟩, bn_eq (max_eq μ h1 h2), gd_pos ⟨p0, p7⟩, nm_eq]
theorem through_eq {μ : Mem} {La cL cB l p : Int} {A : Int → Int} (hL : isL La) (hR : LR μ La A) (h : oddC μ cL cB) (l0 : 0 ≤ l) (l1 : l < A 2) (p0 : 0 ≤ p) (p7 : p < 7) : f_X5_throughTo 108 La l p μ = some ((10 - A (38 + l)) * μ cB p, μ) := by
  obtain ⟨_, ⟨g2, g20, g29⟩, _, _, _, g6, _⟩ := hR
  obtain ⟨_, _, _, _, _, _, _, _, _, _, r1, _⟩ := g6 l l0 l1
  unfold f_X5_throughTo
  rw [gd_pos (isL_k hL), bn_eq (hasLane_eq g2 g20 g29 (nrm_id (by omega) (by omega))), if_pos (⟨l0, l1⟩ : 0 ≤ l ∧ l < A 2), if_neg (by decide : ¬ nrm 1 = 0), nrm_id (z := p) (by omega) (by omega), if_neg (by omega), if_pos (by show p < 7; omega), nrm_id (z := l) (by omega) (by omega), gd_pos (by omega), h.2.1, gd_pos (oddC_k h).2, gd_pos ⟨p0, p7⟩, r1]
theorem weigh_l {La g n' r o cL cB M : Int} {A P : Int → Int} {K : Int → Int → Int → Int → Int → Int → Mem → Option (Int × Mem)} (hL : isL La) (o0 : 0 ≤ o) (o1 : o < 512) (ho : ∀ l, 0 ≤ l → tb o l = decide (l < A 2 ∧ openM A l = 1)) (M0 : 0 ≤ M) (M6 : M ≤ 1000000) (hP : ∀ q, 0 ≤ q → q < A 1 → 0 ≤ P q ∧ P q ≤ M) :
    ∀ (d l n : Nat) (μ : Mem), (l : Int) + d = A 2 → d < n → LR μ La A → oddC μ cL cB → (∀ k, 0 ≤ k → k < A 1 → μ cB k = P k) → (∀ k, 0 ≤ k → k < A 1 → μ cL k = mxT A P k l) →
    ∃ μ', f_X5_weigh_w77 K n 108 g n' La o r l μ = f_X5_weigh_j166 K 108 g n' La o r μ' ∧ (∀ c i, c ≠ cL → μ' c i = μ c i) ∧ (∀ k, 0 ≤ k → k < A 1 → μ' cL k = mxT A P k (A 2).toNat) := by
  have hLo := hL
  unfold isL at hLo
  intro d
  induction d with
  | zero =>
    intro l n μ ld hn hR hO hB hT
    obtain ⟨n, rfl⟩ : ∃ q, n = q + 1 := ⟨n - 1, by omega⟩
    obtain ⟨_, ⟨g2, g20, g29⟩, _⟩ := id hR
    refine ⟨μ, ?_, fun _ _ _ => rfl, ?_⟩
    · rw [f_X5_weigh_w77, gd_pos (isL_k hL), g2, nrm_id (z := A 2) (by omega) (by omega), nrm_id (z := (l : Int)) (by omega) (by omega), if_pos (by omega)]
    · rw [show (A 2).toNat = l by omega]; exact hT
  | succ d ih =>
    intro l n μ ld hn hR hO hB hT
    obtain ⟨n, rfl⟩ : ∃ q, n = q + 1 := ⟨n - 1, by omega⟩
    obtain ⟨⟨_, K1, K7⟩, ⟨g2, g20, g29⟩, _, _, _, g6, _⟩ := id hR
    obtain ⟨a1, a2, a3, b1, b2, b3, ne, _, _, _, _, rs1, rs2⟩ := g6 l (by omega) (by omega)
    have hOc := hO.2.2
    have hstep : f_X5_weigh_w77 K (n + 1) 108 g n' La o r l μ = if tb o l = true then (bn (f_X5_throughTo 108 La l (A (20 + l)) μ) fun r8 μ7 => bn (f_X5_raise 108 (A (11 + l)) r8 μ7) fun _ μ10 => bn (f_X5_throughTo 108 La l (μ10 (La + 1) l) μ10) fun r16 μ15 => bn (f_X5_raise 108 (μ10 (La + 2) l) r16 μ15) fun _ μ18 => f_X5_weigh_w77 K n 108 g n' La o r ((l : Int) + 1) μ18) else f_X5_weigh_w77 K n 108 g n' La o r ((l : Int) + 1) μ := by
      rw [f_X5_weigh_w77, gd_pos (isL_k hL), g2, nrm_id (z := A 2) (by omega) (by omega), nrm_id (z := (l : Int)) (by omega) (by omega), if_neg (by omega), if_neg (by show ¬ ((9 : Int) ≤ l); omega), jbit o0 (by omega) (by omega) (by omega)]
      simp only [gd_pos (by omega : 0 ≤ (l : Int) ∧ (l : Int) < 9), a1, b1]
      cases tb o l <;> rfl
    have oo : openM A l = 0 ∨ openM A l = 1 := mayM_01 _ _ _ _ _
    have hmx : ∀ k, mxT A P k (l + 1) = if mxT A P k l < lbM A P k l then lbM A P k l else mxT A P k l := fun _ => rfl
    have hmi : ∀ k, 0 ≤ mxT A P k l ∧ mxT A P k l ≤ 10 * M := fun k => mxT_in hR M0 hP l (by omega)
    rw [ho l (by omega)] at hstep
    by_cases z : openM A l = 1
    · rw [decide_eq_true ⟨by omega, z⟩, if_pos rfl] at hstep
      have v1 : (10 - A (38 + l)) * P (A (20 + l)) ≤ 10 * M ∧ 0 ≤ (10 - A (38 + l)) * P (A (20 + l)) := by
        have hp := hP (A (20 + l)) b2 b3
        exact ⟨Int.mul_le_mul (by omega) hp.2 hp.1 (by decide), Int.mul_nonneg (by omega) hp.1⟩
      have v2 : (10 - A (38 + l)) * P (A (11 + l)) ≤ 10 * M ∧ 0 ≤ (10 - A (38 + l)) * P (A (11 + l)) := by
        have hp := hP (A (11 + l)) a2 a3
        exact ⟨Int.mul_le_mul (by omega) hp.2 hp.1 (by decide), Int.mul_nonneg (by omega) hp.1⟩
      have t1 := through_eq hL hR hO (by omega : (0 : Int) ≤ l) (by omega) b2 (by omega : A (20 + l) < 7)
      rw [hB _ b2 b3] at t1
      have hx1 := hT (A (11 + l)) a2 a3
      have hi1 := hmi (A (11 + l))
      have r1 := raise_eq (v := (10 - A (38 + l)) * P (A (20 + l))) hO a2 (by omega : A (11 + l) < 7) (by rw [hx1]; exact nrm_id (by omega) (by omega)) (nrm_id (by omega) (by omega))
      generalize hμ1 : ms μ cL (A (11 + l)) (if μ cL (A (11 + l)) < (10 - A (38 + l)) * P (A (20 + l)) then (10 - A (38 + l)) * P (A (20 + l)) else μ cL (A (11 + l))) = μ1 at r1
      have f1 : ∀ c i, c ≠ cL → μ1 c i = μ c i := fun c i h => by rw [← hμ1, ms_nc h]
      have hR1 : LR μ1 La A := LR_co hL (fun c i _ _ _ => f1 c i (by omega)) hR
      have hO1 : oddC μ1 cL cB := ⟨by rw [f1 108 0 (by omega)]; exact hO.1, by rw [f1 108 1 (by omega)]; exact hO.2.1, hOc⟩
      have t2 := through_eq hL hR1 hO1 (by omega : (0 : Int) ≤ l) (by omega) a2 (by omega : A (11 + l) < 7)
      rw [f1 cB _ (by omega), hB _ a2 a3] at t2
      have hx2 : μ1 cL (A (20 + l)) = mxT A P (A (20 + l)) l := by rw [← hμ1, ms_ni (fun q => ne q.symm)]; exact hT _ b2 b3
      have hi2 := hmi (A (20 + l))
      have r2 := raise_eq (v := (10 - A (38 + l)) * P (A (11 + l))) hO1 b2 (by omega : A (20 + l) < 7) (by rw [hx2]; exact nrm_id (by omega) (by omega)) (nrm_id (by omega) (by omega))
      generalize hμ2 : ms μ1 cL (A (20 + l)) (if μ1 cL (A (20 + l)) < (10 - A (38 + l)) * P (A (11 + l)) then (10 - A (38 + l)) * P (A (11 + l)) else μ1 cL (A (20 + l))) = μ2 at r2
      have f2 : ∀ c i, c ≠ cL → μ2 c i = μ c i := fun c i h => by rw [← hμ2, ms_nc h, f1 c i h]
      rw [bn_eq t1, bn_eq r1, f1 (La + 1) l (by omega), f1 (La + 2) l (by omega), a1, b1, bn_eq t2, bn_eq r2] at hstep
      have hO2 : oddC μ2 cL cB := ⟨by rw [f2 108 0 (by omega)]; exact hO.1, by rw [f2 108 1 (by omega)]; exact hO.2.1, hOc⟩
      have hT2 : ∀ k, 0 ≤ k → k < A 1 → μ2 cL k = mxT A P k (l + 1) := by
        intro k k0 k1
        rw [hmx]
        by_cases e1 : k = A (11 + l)
        · have hlb : lbM A P k l = (10 - A (38 + l)) * P (A (20 + l)) := by
            unfold lbM oeM
            rw [e1, if_pos rfl, if_neg (by omega)]
          rw [hlb, ← hμ2, ms_ni (by rw [e1]; exact ne), ← hμ1, e1, ms_eq, hx1]
        · by_cases e2 : k = A (20 + l)
          · have hlb : lbM A P k l = (10 - A (38 + l)) * P (A (11 + l)) := by
              unfold lbM oeM
              rw [e2, if_neg ne, if_pos rfl, if_neg (by omega)]
            rw [hlb, ← hμ2, e2, ms_eq, hx2]
          · have hoe : oeM A l k = -1 := by
              unfold oeM
              rw [if_neg (show ¬ A (11 + (l : Int)) = k from fun q => e1 q.symm), if_neg (show ¬ A (20 + (l : Int)) = k from fun q => e2 q.symm)]
            have hlb : lbM A P k l = -1 := by
              unfold lbM
              rw [if_pos (.inl hoe)]
            have := hmi k
            rw [hlb, if_neg (by omega), ← hμ2, ms_ni e2, ← hμ1, ms_ni e1]
            exact hT k k0 k1
      obtain ⟨μ', y1, y2, y3⟩ := ih (l + 1) n μ2 (by omega) (by omega) (LR_co hL (fun c i _ _ _ => f2 c i (by omega)) hR) hO2 (fun k k0 k1 => by rw [f2 cB k (by omega)]; exact hB k k0 k1) hT2
      exact ⟨μ', by rw [hstep]; exact y1, fun c i h => (y2 c i h).trans (f2 c i h), y3⟩
    · rw [decide_eq_false (fun q => z q.2), if_neg (by decide : ¬ false = true)] at hstep
      have hT2 : ∀ k, 0 ≤ k → k < A 1 → μ cL k = mxT A P k (l + 1) := by
        intro k k0 k1
        have hlb : lbM A P k l = -1 := by
          unfold lbM
          rw [if_pos (.inr (by omega))]
        have := hmi k
        rw [hmx, hlb, if_neg (by omega)]
        exact hT k k0 k1
      obtain ⟨μ', y1, y2, y3⟩ := ih (l + 1) n μ (by omega) (by omega) hR hO hB hT2
      exact ⟨μ', by rw [hstep]; exact y1, y2, y3⟩
def ScO (μ μ' : Mem) : Prop := ∀ c i, c ≠ 108 → c ≠ 109 → c ≠ 110 → μ' c i = μ c i
theorem ScO_tr {a b c : Mem} (h : ScO a b) (k : ScO b c) : ScO a c := fun x i e1 e2 e3 => (k x i e1 e2 e3).trans (h x i e1 e2 e3)
theorem weigh_r {La g N o : Int} {A : Int → Int} (hL : isL La) (o0 : 0 ≤ o) (o1 : o < 512) (ho : ∀ l, 0 ≤ l → tb o l = decide (l < A 2 ∧ openM A l = 1)) (g0 : 0 ≤ g) (g1 : g < A 1) (N7 : N ≤ 7) :
    ∀ (d r n : Nat) (μ : Mem) (cL cB : Int), (r : Int) + d = N → d < n → LR μ La A → oddC μ cL cB → μ 108 2 = 10 ^ r → (∀ k, 0 ≤ k → k < A 1 → μ cL k = lkM A g r k) → (∀ q, r = q + 1 → ∀ k, 0 ≤ k → k < A 1 → μ cB k = lkM A g q k) →
    ∃ μ' cL' cB', f_X5_weigh_w33 n 108 g N La o r μ = some (0, μ') ∧ ScO μ μ' ∧ oddC μ' cL' cB' ∧ μ' 108 2 = 10 ^ N.toNat ∧ (∀ k, 0 ≤ k → k < A 1 → μ' cL' k = lkM A g N.toNat k) ∧ (∀ q, N.toNat = q + 1 → ∀ k, 0 ≤ k → k < A 1 → μ' cB' k = lkM A g q k) := by
  have hLo := hL
  unfold isL at hLo
  intro d
  induction d with
  | zero =>
    intro r n μ cL cB rd hn hR hO hw hT hB
    obtain ⟨n, rfl⟩ : ∃ q, n = q + 1 := ⟨n - 1, by omega⟩
    have er : N.toNat = r := by omega
    refine ⟨μ, cL, cB, ?_, fun _ _ _ _ _ => rfl, hO, by rw [er]; exact hw, by rw [er]; exact hT, by rw [er]; exact hB⟩
    rw [f_X5_weigh_w33, nrm_id (z := N) (by omega) (by omega), nrm_id (z := (r : Int)) (by omega) (by omega), if_pos (by omega)]
  | succ d ih =>
    intro r n μ cL cB rd hn hR hO hw hT hB
    obtain ⟨n, rfl⟩ : ∃ q, n = q + 1 := ⟨n - 1, by omega⟩
    have hOc := hO.2.2
    obtain ⟨⟨_, K1, K7⟩, ⟨g2, g20, g29⟩, _⟩ := id hR
    have p10 := pow10 (r := r) (by omega)
    have p11 := pow10 (r := r + 1) (by omega)
    have kA : isA cB 1 ∧ aln cB = ((7 : Nat) : Int) := by
      rcases hOc with ⟨e1, e2⟩ | ⟨e1, e2⟩ <;> rw [e2] <;> exact ⟨by decide, by decide⟩
    -- swapped, and filled
    have e0 : ms (ms μ 108 1 (μ 108 0)) 108 0 (μ 108 1) 108 0 = cB := by rw [ms_eq]; exact hO.2.1
    have e1 : ms (ms μ 108 1 (μ 108 0)) 108 0 (μ 108 1) 108 1 = cL := by rw [ms_ni (by decide), ms_eq]; exact hO.1
    generalize hμ1 : ms (ms μ 108 1 (μ 108 0)) 108 0 (μ 108 1) = μ1 at e0 e1
    have f1 : ∀ c i, c ≠ 108 → μ1 c i = μ c i := fun c i h => by rw [← hμ1, ms_nc h, ms_nc h]
    have hf := fill_i (v := 0) (n := 7) kA.1 kA.2 (by decide) μ1
    generalize hμ2 : flm μ1 cB 0 ((7 : Nat) : Int) 0 = μ2 at hf
    have f2 : ∀ c i, c ≠ cB → μ2 c i = μ1 c i := fun c i h => by rw [← hμ2, flm_nc h]
    have hO2 : oddC μ2 cB cL := ⟨by rw [f2 108 0 (by omega)]; exact e0, by rw [f2 108 1 (by omega)]; exact e1, by omega⟩
    have hR2 : LR μ2 La A := LR_co hL (fun c i _ _ _ => by rw [f2 c i (by omega), f1 c i (by omega)]) hR
    have M6 : (10 : Int) ^ r ≤ 1000000 := by
      have : r ≤ 6 := by omega
      rcases (by omega : r = 0 ∨ r = 1 ∨ r = 2 ∨ r = 3 ∨ r = 4 ∨ r = 5 ∨ r = 6) with e | e | e | e | e | e | e <;> subst e <;> decide
    obtain ⟨μ3, p1, p2, p3⟩ := weigh_l (K := f_X5_weigh_w33 n) (g := g) (n' := N) (r := (r : Int)) (cL := cB) (cB := cL) (P := lkM A g r) (M := 10 ^ r) hL o0 o1 ho (by omega) M6 (fun q q0 q1 => lkM_in hR r q q0 q1) (A 2).toNat 0 FU μ2 (by omega) (by unfold FU; omega) hR2 hO2 (by
      intro k k0 k1
      rw [f2 cL k (by omega), f1 cL k (by omega)]; exact hT k k0 k1) (by
      intro k k0 k1
      rw [← hμ2, flm_in k0 (by omega)]; rfl)
    -- the whole, and the goal
    have hO3 : oddC μ3 cB cL := ⟨by rw [p2 108 0 (by omega)]; exact hO2.1, by rw [p2 108 1 (by omega)]; exact hO2.2.1, by omega⟩
    have w3 : μ3 108 2 = 10 ^ r := by rw [p2 108 2 (by omega), f2 108 2 (by omega), ← hμ1, ms_ni (by decide), ms_ni (by decide)]; exact hw
    generalize hμ4 : ms μ3 108 2 (μ3 108 2 * 10) = μ4
    have hO4 : oddC μ4 cB cL := ⟨by rw [← hμ4, ms_ni (by decide)]; exact hO3.1, by rw [← hμ4, ms_ni (by decide)]; exact hO3.2.1, by omega⟩
    have w4 : μ4 108 2 = 10 ^ (r + 1) := by rw [← hμ4, ms_eq, w3, Int.pow_succ]
    have hpw : f_X5_putWhole 108 g μ4 = some (0, ms μ4 cB g (10 ^ (r + 1))) := by
      unfold f_X5_putWhole
      rw [nrm_id (z := g) (by omega) (by omega), if_neg (by omega), if_neg (by show ¬ ((7 : Int) ≤ g); omega), hO4.1, gd_pos (oddC_k hO4).1, gd_pos (by omega), nm_eq, w4]
    generalize hμ5 : ms μ4 cB g (10 ^ (r + 1)) = μ5 at hpw
    have f5 : ∀ c i, c ≠ 108 → c ≠ cB → μ5 c i = μ c i := by
      intro c i h1 h2
      rw [← hμ5, ms_nc h2, ← hμ4, ms_nc h1, p2 c i h2, f2 c i h2, f1 c i h1]
    have hO5 : oddC μ5 cB cL := ⟨by rw [← hμ5, ms_nc (by omega)]; exact hO4.1, by rw [← hμ5, ms_nc (by omega)]; exact hO4.2.1, by omega⟩
    have w5 : μ5 108 2 = 10 ^ (r + 1) := by rw [← hμ5, ms_nc (by omega)]; exact w4
    have T5 : ∀ k, 0 ≤ k → k < A 1 → μ5 cB k = lkM A g (r + 1) k := by
      intro k k0 k1
      unfold lkM
      by_cases e : k = g
      · rw [if_pos e, e, ← hμ5, ms_eq]
      · rw [if_neg e, ← hμ5, ms_ni e, ← hμ4, ms_nc (by omega)]
        exact p3 k k0 k1
    have B5 : ∀ q, r + 1 = q + 1 → ∀ k, 0 ≤ k → k < A 1 → μ5 cL k = lkM A g q k := by
      intro q hq k k0 k1
      obtain rfl : q = r := by omega
      rw [f5 cL k (by omega) (by omega)]
      exact hT k k0 k1
    obtain ⟨μ', cL', cB', y1, y2, y3, y4, y5, y6⟩ := ih (r + 1) n μ5 cB cL (by omega) (by omega) (LR_co hL (fun c i _ _ _ => f5 c i (by omega) (by omega)) hR) hO5 w5 T5 B5
    refine ⟨μ', cL', cB', ?_, fun c i h1 h2 h3 => (y2 c i h1 h2 h3).trans (f5 c i h1 (by omega)), y3, y4, y5, y6⟩
    rw [f_X5_weigh_w33, nrm_id (z := N) (by omega) (by omega), nrm_id (z := (r : Int)) (by omega) (by omega), if_neg (by omega), if_neg (by show ¬ ((7 : Int) ≤ r); omega), nm_eq, nm_eq, hμ1, e0, bn_eq hf]
    rw [show ((0 : Nat) : Int) = 0 from rfl] at p1
    rw [p1]
    unfold f_X5_weigh_j166
    rw [nm_eq, hμ4, bn_eq hpw, ← y1]
    rw [show ((r + 1 : Nat) : Int) = (r : Int) + 1 by omega]
/-- The odds weighed by the class. -/
theorem weigh_eq {g N : Int} {μ ρ : Mem} (j : JR μ 58 ρ) (hod : OddR μ) (g0 : 0 ≤ g) (g1 : g < ρ 112 1) (N0 : 0 ≤ N) (N7 : N ≤ 7) :
    ∃ μ' cL cB, f_X5_weigh 108 58 g N μ = some (0, μ') ∧ SaO μ μ' ∧ OddR μ' ∧ oddC μ' cL cB ∧ μ' 108 2 = 10 ^ N.toNat ∧ (∀ k, 0 ≤ k → k < ρ 112 1 → μ' cL k = lkM (rowA ρ 0) g N.toNat k) ∧ (∀ q, N.toNat = q + 1 → ∀ k, 0 ≤ k → k < ρ 112 1 → μ' cB k = lkM (rowA ρ 0) g q k) := by
  obtain ⟨hL, hR, _, ⟨L0, L9⟩, _, ⟨K1, K7⟩, hl, ⟨c1, c2, c3⟩, _⟩ := now_is j
  have hLo := hL
  unfold isL at hLo
  obtain ⟨o, μ2, o1, o2, o3, o4, o5⟩ := openLanes_eq j
  obtain ⟨j2, j3⟩ := JR_sa o2 (SaR_rfl ρ) j
  have hR2 := j2.2.1
  rw [j3] at hR2
  have ho : ∀ l, 0 ≤ l → tb o l = decide (l < rowA ρ 0 2 ∧ openM (rowA ρ 0) l = 1) := by
    intro l l0
    rw [rowA_0]; exact o5 l l0
  obtain ⟨cL, cB, hO⟩ : ∃ cL cB, oddC μ2 cL cB := by
    rcases hod with ⟨x1, x2⟩ | ⟨x1, x2⟩
    · exact ⟨109, 110, by rw [o2 108 0 (by unfold EssC; omega)]; exact x1, by rw [o2 108 1 (by unfold EssC; omega)]; exact x2, .inl ⟨rfl, rfl⟩⟩
    · exact ⟨110, 109, by rw [o2 108 0 (by unfold EssC; omega)]; exact x1, by rw [o2 108 1 (by unfold EssC; omega)]; exact x2, .inr ⟨rfl, rfl⟩⟩
  have hOc := hO.2.2
  have kA : isA cL 1 ∧ aln cL = ((7 : Nat) : Int) := by
    rcases hOc with ⟨e1, e2⟩ | ⟨e1, e2⟩ <;> rw [e1] <;> exact ⟨by decide, by decide⟩
  have hf := fill_i (v := 0) (n := 7) kA.1 kA.2 (by decide) μ2
  generalize hμ3 : flm μ2 cL 0 ((7 : Nat) : Int) 0 = μ3 at hf
  have f3 : ∀ c i, c ≠ cL → μ3 c i = μ2 c i := fun c i h => by rw [← hμ3, flm_nc h]
  generalize hμ4 : ms μ3 108 2 1 = μ4
  have hO4 : oddC μ4 cL cB := ⟨by rw [← hμ4, ms_ni (by decide), f3 108 0 (by omega)]; exact hO.1, by rw [← hμ4, ms_ni (by decide), f3 108 1 (by omega)]; exact hO.2.1, hOc⟩
  have w4 : μ4 108 2 = 1 := by rw [← hμ4, ms_eq]
  have hpw : f_X5_putWhole 108 g μ4 = some (0, ms μ4 cL g 1) := by
    unfold f_X5_putWhole
    rw [nrm_id (z := g) (by omega) (by omega), if_neg (by omega), if_neg (by show ¬ ((7 : Int) ≤ g); omega), hO4.1, gd_pos (oddC_k hO4).1, gd_pos (by omega), nm_eq, w4]
  generalize hμ5 : ms μ4 cL g 1 = μ5 at hpw
  have f5 : ∀ c i, c ≠ 108 → c ≠ cL → μ5 c i = μ2 c i := by
    intro c i h1 h2
    rw [← hμ5, ms_nc h2, ← hμ4, ms_nc h1, f3 c i h2]
  have hO5 : oddC μ5 cL cB := ⟨by rw [← hμ5, ms_nc (by omega)]; exact hO4.1, by rw [← hμ5, ms_nc (by omega)]; exact hO4.2.1, hOc⟩
  obtain ⟨μ6, cL', cB', y1, y2, y3, y4, y5, y6⟩ := weigh_r (A := rowA ρ 0) (g := g) (N := N) hL o3 o4 ho g0 (by rw [rowA_0]; exact g1) N7 N.toNat 0 FU μ5 cL cB (by omega) (by unfold FU; omega) (LR_co hL (fun c i _ _ _ => f5 c i (by omega) (by omega)) hR2) hO5 (by rw [← hμ5, ms_nc (by omega)]; exact w4) (by
    intro k k0 k1
    rw [rowA_0] at k1
    unfold lkM
    by_cases e : k = g
    · rw [if_pos e, e, ← hμ5, ms_eq]
    · rw [if_neg e, ← hμ5, ms_ni e, ← hμ4, ms_nc (by omega), ← hμ3, flm_in k0 (by omega)]) (fun q hq => absurd hq (by omega))
  have so : SaO μ μ6 := by
    intro c i e h
    have he := e
    unfold EssC at e
    rw [y2 c i h (by omega) (by omega), f5 c i h (by omega)]
    exact o2 c i he
  refine ⟨μ6, cL', cB', ?_, so, ?_, y3, y4, by rw [rowA_0] at y5; exact y5, by rw [rowA_0] at y6; exact y6⟩
  · unfold f_X5_weigh
    rw [gd_pos kk_58, bn_eq o1, hO.1, bn_eq hf, nm_eq, hμ4, bn_eq hpw]
    exact y1
  · rcases y3.2.2 with ⟨x1, x2⟩ | ⟨x1, x2⟩
    · exact .inl ⟨by rw [y3.1, x1], by rw [y3.2.1, x2]⟩
    · exact .inr ⟨by rw [y3.1, x1], by rw [y3.2.1, x2]⟩
