/-- The reference's row with other depths. -/
def RS (A dv : Int → Int) (ρ : Mem) : Prop := (∀ j, (0 ≤ j ∧ j < 55) ∨ (200 ≤ j ∧ j < 1100) ∨ j = 65 ∨ j = 66 → ρ 112 j = A j) ∧ (∀ l, 0 ≤ l → l < A 2 → ρ 112 (56 + l) = dv l ∧ 0 ≤ dv l ∧ dv l ≤ 6)
/-- What is taken as known of a land, in numbers. -/
def okA (A : Int → Int) : Prop := (1 ≤ A 1 ∧ A 1 ≤ 7) ∧ (0 ≤ A 2 ∧ A 2 ≤ 9) ∧ (0 ≤ A 66 ∧ A 66 ≤ 9) ∧ (0 ≤ A 65 ∧ A 65 < 512)
theorem RS_co {A dv : Int → Int} {ρ ρ' : Mem} (h : RS A dv ρ) (s : ∀ i, ρ' 112 i = ρ 112 i) : RS A dv ρ' := by
  refine ⟨fun j hj => by rw [s]; exact h.1 j hj, fun l l0 l1 => by rw [s]; exact h.2 l l0 l1⟩
theorem RS_LR {μ ρ : Mem} {La : Int} {A dv : Int → Int} (h : RS A dv ρ) (hR : LR μ La A) : LR μ La (rowA ρ 0) := LR_cA (fun j hj => by rw [rowA_0]; exact h.1 j (by omega)) hR
theorem RS_may {μ ρ : Mem} {La l d : Int} {A dv : Int → Int} (h : RS A dv ρ) (hR : LR μ La A) (ok : okA A) (l0 : 0 ≤ l) (l1 : l < A 2) (d0 : 0 ≤ d) (d6 : d ≤ 6) : ∃ ρ', f_X12_mayGo 111 l d ρ = some (mayM A l d (A 66) (A 65), ρ') ∧ ScW ρ ρ' := by
  obtain ⟨_, ⟨L0, L9⟩, ⟨r0, r9⟩, ⟨b0, b9⟩⟩ := ok
  have e2 : ρ 112 2 = A 2 := h.1 2 (by omega)
  have e66 : ρ 112 66 = A 66 := h.1 66 (by omega)
  have e65 : ρ 112 65 = A 65 := h.1 65 (by omega)
  obtain ⟨ρ2, p1, p2⟩ := mayGo_m (RS_LR h hR) l0 (by omega) d0 d6 (by omega) (by omega) (by omega) (by omega)
  rw [mayM_cA hR (fun j hj => by rw [rowA_0]; exact h.1 j (by omega)) l0 (by omega), e66, e65] at p1
  exact ⟨ρ2, p1, p2⟩
theorem RS_worn {μ ρ : Mem} {La l d : Int} {A dv : Int → Int} (h : RS A dv ρ) (hR : LR μ La A) (ok : okA A) (l0 : 0 ≤ l) (l1 : l < A 2) (d0 : 0 ≤ d) (d6 : d ≤ 6) : ∃ ρ', f_X12_wornTo 111 l d (ρ 112 66) ρ = some (wornM A l d (A 66), ρ') ∧ ScW ρ ρ' := by
  obtain ⟨_, ⟨L0, L9⟩, ⟨r0, r9⟩, ⟨b0, b9⟩⟩ := ok
  have e2 : ρ 112 2 = A 2 := h.1 2 (by omega)
  have e66 : ρ 112 66 = A 66 := h.1 66 (by omega)
  have e65 : ρ 112 65 = A 65 := h.1 65 (by omega)
  obtain ⟨ρ2, p1, p2⟩ := wornTo_m (ra := ρ 112 66) (RS_LR h hR) l0 (by omega) d0 d6 (by omega) (by omega) (by omega) (by omega)
  rw [wornM_cA hR (fun j hj => by rw [rowA_0]; exact h.1 j (by omega)) l0 (by omega), e66] at p1
  rw [e66]
  exact ⟨ρ2, p1, p2⟩
theorem RS_oe {μ ρ : Mem} {La l k : Int} {A dv : Int → Int} (h : RS A dv ρ) (hR : LR μ La A) (ok : okA A) (l0 : 0 ≤ l) (l1 : l < A 2) (hk : nrm k = k) : f_X12_otherEnd 111 l k ρ = some (oeM A l k, ρ) := by
  obtain ⟨_, ⟨L0, L9⟩, _⟩ := ok
  have e2 : ρ 112 2 = A 2 := h.1 2 (by omega)
  have := otherEnd_m (RS_LR h hR) l0 (by omega) hk
  have e : oeM (rowA ρ 0) l k = oeM A l k := by
    unfold oeM
    rw [rowA_0, rowA_0, h.1 (11 + l) (by omega), h.1 (20 + l) (by omega)]
  rw [e] at this
  exact this
theorem RS_up {A dv : Int → Int} {ρ : Mem} {l w : Int} (h : RS A dv ρ) (ok : okA A) (l0 : 0 ≤ l) (l1 : l < A 2) (w0 : 0 ≤ w) (w6 : w ≤ 6) : RS A (upF dv l w) (ms ρ 112 (56 + l) w) := by
  have L9 := ok.2.1.2
  refine ⟨fun j hj => by rw [ms_ni (by omega)]; exact h.1 j hj, ?_⟩
  intro m m0 m1
  by_cases e : m = l
  · rw [e, ms_eq, upF_eq]; exact ⟨rfl, w0, w6⟩
  · rw [ms_ni (by omega), upF_ne e]; exact h.2 m m0 m1
/-- The sum of so many numbers. -/
def sumL (f : Int → Int) : Nat → Int → Int
  | 0, _ => 0
  | d + 1, l => f l + sumL f d (l + 1)
theorem sumL_cg {f g : Int → Int} : ∀ (d : Nat) (l : Int), (∀ k, l ≤ k → k < l + d → f k = g k) → sumL f d l = sumL g d l
  | 0, _, _ => rfl
  | d + 1, l, h => by
    unfold sumL
    rw [h l (by omega) (by omega), sumL_cg d (l + 1) (fun k h1 h2 => h k (by omega) (by omega))]
theorem sumL_0 {f : Int → Int} : ∀ (d : Nat) (l : Int), (∀ k, l ≤ k → k < l + d → f k = 0) → sumL f d l = 0
  | 0, _, _ => rfl
  | d + 1, l, h => by
    unfold sumL
    rw [h l (by omega) (by omega), sumL_0 d (l + 1) (fun k h1 h2 => h k (by omega) (by omega))]
    rfl
/-- In how many rows of so many lanes it comes from a place to the goal, wearing. -/
def rwM (A : Int → Int) (g : Int) : Nat → (Int → Int) → Int → Int
  | 0, _, p => if p = g then 1 else 0
  | n + 1, dv, p => sumL (fun l => if oeM A l p ≠ -1 ∧ mayM A l (dv l) (A 66) (A 65) ≠ 0 then rwM A g n (upF dv l (wornM A l (dv l) (A 66))) (oeM A l p) else 0) (A 2).toNat 0
def rwT (A : Int → Int) (g : Int) (n : Nat) (dv : Int → Int) (p l : Int) : Int := if oeM A l p ≠ -1 ∧ mayM A l (dv l) (A 66) (A 65) ≠ 0 then rwM A g n (upF dv l (wornM A l (dv l) (A 66))) (oeM A l p) else 0
theorem rwM_s (A : Int → Int) (g : Int) (n : Nat) (dv : Int → Int) (p : Int) : rwM A g (n + 1) dv p = sumL (rwT A g n dv p) (A 2).toNat 0 := rfl
theorem rows_ml {A dv : Int → Int} {μ : Mem} {La p g : Int} {n : Nat} {rec : Nat → Int → Int → Int → Int → Mem → Option (Int × Mem)} (hR : LR μ La A) (ok : okA A) (p0 : 0 ≤ p) (p7 : p < 7)
    (hrec : ∀ dv' q ρ, RS A dv' ρ → 0 ≤ q → q < 7 → ∃ ρ', rec 0 111 q g (n : Int) ρ = some (rwM A g n dv' q, ρ') ∧ ScW ρ ρ') :
    ∀ (d m : Nat) (l s : Int) (ρ : Mem), 0 ≤ l → l + d = A 2 → d < m → RS A dv ρ → ∃ ρ', f_X12_rowsFrom_w21 rec m 111 p g ((n : Int) + 1) s l ρ = some (s + sumL (rwT A g n dv p) d l, ρ') ∧ ScW ρ ρ' := by
  have L9 := ok.2.1.2
  have K7 := ok.1.2
  intro d
  induction d with
  | zero =>
    intro m l s ρ l0 ld hm hS
    obtain ⟨m, rfl⟩ : ∃ q, m = q + 1 := ⟨m - 1, by omega⟩
    have e2 : ρ 112 2 = A 2 := hS.1 2 (by omega)
    refine ⟨ρ, ?_, ScW_rf⟩
    rw [f_X12_rowsFrom_w21, show (111 + 1 : Int) = 112 from rfl, e2, nrm_id (z := A 2) (by omega) (by omega), nrm_id (z := l) (by omega) (by omega), if_pos (by omega)]
    show some (s, ρ) = some (s + 0, ρ)
    rw [Int.add_zero]
  | succ d ih =>
    intro m l s ρ l0 ld hm hS
    obtain ⟨m, rfl⟩ : ∃ q, m = q + 1 := ⟨m - 1, by omega⟩
    have e2 : ρ 112 2 = A 2 := hS.1 2 (by omega)
    obtain ⟨d1, d2, d3⟩ := hS.2 l l0 (by omega)
    have ho := oeM_in (k := p) hR l0 (by omega : l < A 2)
    obtain ⟨ρ2, p1, p2⟩ := RS_may hS hR ok l0 (by omega) d2 d3
    have hS2 : RS A dv ρ2 := RS_co hS (fun i => p2 112 i (by decide) (by decide))
    obtain ⟨ρ3, q1, q2⟩ := RS_worn hS2 hR ok l0 (by omega) d2 d3
    have s3 := ScW_tr p2 q2
    have hS3 : RS A dv ρ3 := RS_co hS (fun i => s3 112 i (by decide) (by decide))
    have wi := wornM_in (A := A) (l := l) (r := A 66) d2 d3
    obtain ⟨ρ4, r1, r2⟩ := hrec (upF dv l (wornM A l (dv l) (A 66))) (if oeM A l p = -1 then 0 else oeM A l p) (ms ρ3 112 (56 + l) (wornM A l (dv l) (A 66))) (RS_up hS3 ok l0 (by omega) wi.1 wi.2) (by split <;> omega) (by split <;> omega)
    have hsum : sumL (rwT A g n dv p) (d + 1) l = rwT A g n dv p l + sumL (rwT A g n dv p) d (l + 1) := rfl
    have m01 := mayM_01 A l (dv l) (A 66) (A 65)
    rw [f_X12_rowsFrom_w21, show (111 + 1 : Int) = 112 from rfl, e2, nrm_id (z := A 2) (by omega) (by omega), nrm_id (z := l) (by omega) (by omega), if_neg (by omega), bn_eq (RS_oe hS hR ok l0 (by omega) (nrm_id (by omega) (by omega))), nrm_id (z := 56 + l) (by omega) (by omega), gd_pos (by omega), nm_eq, d1, nrm_id (z := oeM A l p) (by omega) (by omega), show nrm (-1) = -1 from rfl, hsum]
    unfold f_X12_rowsFrom_j125
    by_cases z : oeM A l p = -1
    · rw [if_pos z]
      have ht : rwT A g n dv p l = 0 := if_neg (fun q => q.1 z)
      obtain ⟨ρ', y1, y2⟩ := ih m (l + 1) s ρ (by omega) (by omega) (by omega) hS
      rw [ht, Int.zero_add]
      exact ⟨ρ', y1, y2⟩
    · rw [if_neg z, bn_eq p1, nrm_id (z := mayM A l (dv l) (A 66) (A 65)) (by omega) (by omega)]
      rw [if_neg z] at r1
      by_cases y : mayM A l (dv l) (A 66) (A 65) = 0
      · rw [if_pos y]
        have ht : rwT A g n dv p l = 0 := if_neg (fun q => q.2 y)
        obtain ⟨ρ', y1, y2⟩ := ih m (l + 1) s ρ2 (by omega) (by omega) (by omega) hS2
        rw [ht, Int.zero_add]
        exact ⟨ρ', y1, ScW_tr p2 y2⟩
      · have ht : rwT A g n dv p l = rwM A g n (upF dv l (wornM A l (dv l) (A 66))) (oeM A l p) := if_pos ⟨z, y⟩
        rw [if_neg y, bn_eq q1, gd_pos (by omega), nm_eq, show (n : Int) + 1 - 1 = (n : Int) by omega, bn_eq r1, nm_eq, gd_pos (by omega), nm_eq]
        have s5 : ScW ρ (ms ρ4 112 (56 + l) (dv l)) := by
          intro c i x1 x2
          by_cases e : c = 112 ∧ i = 56 + l
          · rw [e.1, e.2, ms_eq, d1]
          · rw [ms_at, if_neg e, r2 c i x1 x2, ms_at, if_neg e, s3 c i x1 x2]
        obtain ⟨ρ', y1, y2⟩ := ih m (l + 1) (s + rwM A g n (upF dv l (wornM A l (dv l) (A 66))) (oeM A l p)) (ms ρ4 112 (56 + l) (dv l)) (by omega) (by omega) (by omega) (RS_co hS (fun i => s5 112 i (by decide) (by decide)))
        refine ⟨ρ', ?_, ScW_tr s5 y2⟩
        rw [y1, ht, Int.add_assoc]
theorem rows_m {A : Int → Int} {μ : Mem} {La g : Int} (hR : LR μ La A) (ok : okA A) (g0 : 0 ≤ g) (g7 : g < 7) : ∀ (n fu : Nat) (dv : Int → Int) (p : Int) (ρ : Mem), n ≤ 6 → n < fu → RS A dv ρ → 0 ≤ p → p < 7 → ∃ ρ', g_X12_rowsFrom fu 0 111 p g (n : Int) ρ = some (rwM A g n dv p, ρ') ∧ ScW ρ ρ' := by
  have L0 := ok.2.1.1
  have L9 := ok.2.1.2
  intro n
  induction n with
  | zero =>
    intro fu dv p ρ hn hf hS p0 p7
    obtain ⟨fu, rfl⟩ : ∃ q, fu = q + 1 := ⟨fu - 1, by omega⟩
    refine ⟨ρ, ?_, ScW_rf⟩
    show b_X12_rowsFrom (g_X12_rowsFrom fu) 111 p g ((0 : Nat) : Int) ρ = some (if p = g then 1 else 0, ρ)
    unfold b_X12_rowsFrom
    rw [if_pos (by decide : nrm ((0 : Nat) : Int) = 0), nrm_id (z := p) (by omega) (by omega), nrm_id (z := g) (by omega) (by omega)]
    split <;> rfl
  | succ n ih =>
    intro fu dv p ρ hn hf hS p0 p7
    obtain ⟨fu, rfl⟩ : ∃ q, fu = q + 1 := ⟨fu - 1, by omega⟩
    obtain ⟨ρ2, y1, y2⟩ := rows_ml (rec := g_X12_rowsFrom fu) (n := n) (g := g) hR ok p0 p7 (fun dv' q ρ h q0 q7 => ih fu dv' q ρ (by omega) (by omega) h q0 q7) (A 2).toNat FU 0 0 ρ (by decide) (by omega) (by unfold FU; omega) hS
    refine ⟨ρ2, ?_, y2⟩
    show b_X12_rowsFrom (g_X12_rowsFrom fu) 111 p g ((n + 1 : Nat) : Int) ρ = _
    unfold b_X12_rowsFrom
    rw [nrm_id (z := ((n + 1 : Nat) : Int)) (by omega) (by omega), if_neg (by omega), show ((n + 1 : Nat) : Int) = (n : Int) + 1 by omega, y1, rwM_s, Int.zero_add]
/-- Lanes that may be gone by are open now. -/
def opn (A dv : Int → Int) : Prop := ∀ l, 0 ≤ l → l < A 2 → mayM A l (dv l) (A 66) (A 65) ≠ 0 → openM A l = 1
theorem opn_up {A dv : Int → Int} {l w : Int} (h : opn A dv) (hl : openM A l = 1) : opn A (upF dv l w) := by
  intro m m0 m1 q
  by_cases e : m = l
  · rw [e]; exact hl
  · rw [upF_ne e] at q; exact h m m0 m1 q
theorem opn_0 {A : Int → Int} : opn A (fun l => A (56 + l)) := by
  intro l l0 l1 q
  have := mayM_01 A l (A (56 + l)) (A 66) (A 65)
  unfold openM
  dsimp only at q
  omega
/-- A lane that is open leads one further at most. -/
theorem D_step {μ : Mem} {La g l p : Int} {A D : Int → Int} (hR : LR μ La A) (hD : isD (EdG A (wO A)) g D) (l0 : 0 ≤ l) (l1 : l < A 2) (ho : oeM A l p ≠ -1) (hop : openM A l = 1) (hf : D (oeM A l p) ≠ farI) : D p ≤ D (oeM A l p) + 1 := by
  have wl : wO A l = 1 := if_pos hop
  have E : EdG A (wO A) (wO A l, oeM A l p, p) := oe_EdG l0 l1 ho (by rw [wl]; decide)
  have := hD.2 _ E hf
  dsimp only at this
  omega
theorem rw_far {μ : Mem} {La g : Int} {A D : Int → Int} (hR : LR μ La A) (g0 : 0 ≤ g) (g7 : g < 7) (hD : isD (EdG A (wO A)) g D) : ∀ (n : Nat) (dv : Int → Int) (p : Int), 0 ≤ p → p < 7 → opn A dv → (D p = farI ∨ (n : Int) < D p) → rwM A g n dv p = 0
  | 0, dv, p, p0, p7, ho, h => by
    show (if p = g then (1 : Int) else 0) = 0
    rw [if_neg]
    intro e
    rw [e, hD.1.1] at h
    have hf : farI = 268435456 := rfl
    omega
  | n + 1, dv, p, p0, p7, ho, h => by
    rw [rwM_s]
    apply sumL_0
    intro l l0 l1
    have h2 := hR.2.1
    unfold rwT
    by_cases c : oeM A l p ≠ -1 ∧ mayM A l (dv l) (A 66) (A 65) ≠ 0
    · rw [if_pos c]
      have hl := ho l l0 (by omega) c.2
      have hoi := oeM_in (k := p) hR l0 (by omega : l < A 2)
      have k7 := hR.1.2.2
      refine rw_far hR g0 g7 hD n _ _ (by omega) (by omega) (opn_up ho hl) ?_
      by_cases z : D (oeM A l p) = farI
      · exact .inl z
      · have := D_step hR hD l0 (by omega) c.1 hl z
        have hi := hD.1.2.1 (oeM A l p) (by omega) (by omega)
        have hb := hD.1.2.2.2 (oeM A l p) (by omega) (by omega) z
        have nf := nfin_in D
        have hf : farI = 268435456 := rfl
        refine .inr ?_
        omega
    · rw [if_neg c]
