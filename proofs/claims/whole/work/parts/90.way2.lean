/-! the reference's search for a shortest way -/
def FD (i0 : Int) (ρ ρ' : Mem) : Prop := ∀ c i, c ≠ 116 → c ≠ 117 → ¬ (c = 120 ∧ i0 ≤ i) → ρ' c i = ρ c i
theorem FD_rf {i0 : Int} {ρ : Mem} : FD i0 ρ ρ := fun _ _ _ _ _ => rfl
theorem FD_tr {i0 : Int} {a b c : Mem} (h : FD i0 a b) (k : FD i0 b c) : FD i0 a c := fun x i e f g => (k x i e f g).trans (h x i e f g)
theorem FD_w {i0 : Int} {a b : Mem} (h : ScW a b) : FD i0 a b := fun x i e f _ => h x i e f
def fdF (B : Int → Int) : Nat → Int → Int
  | 0, _ => -1
  | d + 1, l => if B l ≠ 0 then l else fdF B d (l + 1)
theorem fdF_s (B : Int → Int) (d : Nat) (l : Int) : fdF B (d + 1) l = if B l ≠ 0 then l else fdF B d (l + 1) := rfl
def fdB (A : Int → Int) (g : Int) : Nat → (Int → Int) → Int → Int
  | 0, _, p => if p = g then 1 else 0
  | n + 1, dv, p => if fdF (fun l => if oeM A l p ≠ -1 ∧ mayM A l (dv l) (A 66) (A 65) ≠ 0 then fdB A g n (upF dv l (wornM A l (dv l) (A 66))) (oeM A l p) else 0) (A 2).toNat 0 = -1 then 0 else 1
def fdT (A : Int → Int) (g : Int) (n : Nat) (dv : Int → Int) (p l : Int) : Int := if oeM A l p ≠ -1 ∧ mayM A l (dv l) (A 66) (A 65) ≠ 0 then fdB A g n (upF dv l (wornM A l (dv l) (A 66))) (oeM A l p) else 0
theorem fdB_s (A : Int → Int) (g : Int) (n : Nat) (dv : Int → Int) (p : Int) : fdB A g (n + 1) dv p = if fdF (fdT A g n dv p) (A 2).toNat 0 = -1 then 0 else 1 := rfl
def fdP (A : Int → Int) (g : Int) : Nat → (Int → Int) → Int → Int → Int
  | 0, _, _, _ => -1
  | n + 1, dv, p, t => if t = 0 then fdF (fdT A g n dv p) (A 2).toNat 0 else fdP A g n (upF dv (fdF (fdT A g n dv p) (A 2).toNat 0) (wornM A (fdF (fdT A g n dv p) (A 2).toNat 0) (dv (fdF (fdT A g n dv p) (A 2).toNat 0)) (A 66))) (oeM A (fdF (fdT A g n dv p) (A 2).toNat 0) p) (t - 1)
theorem fdP_0 (A : Int → Int) (g : Int) (n : Nat) (dv : Int → Int) (p : Int) : fdP A g (n + 1) dv p 0 = fdF (fdT A g n dv p) (A 2).toNat 0 := rfl
theorem fdP_s {A : Int → Int} {g : Int} {n : Nat} {dv : Int → Int} {p t m : Int} (hm : fdF (fdT A g n dv p) (A 2).toNat 0 = m) (ht : 0 ≤ t) : fdP A g (n + 1) dv p (t + 1) = fdP A g n (upF dv m (wornM A m (dv m) (A 66))) (oeM A m p) t := by
  subst hm
  show (if t + 1 = 0 then _ else fdP A g n _ _ (t + 1 - 1)) = _
  rw [if_neg (by omega), show t + 1 - 1 = t by omega]
theorem fdB_01 (A : Int → Int) (g : Int) (n : Nat) (dv : Int → Int) (p : Int) : fdB A g n dv p = 0 ∨ fdB A g n dv p = 1 := by
  cases n with
  | zero =>
    show (if p = g then (1 : Int) else 0) = 0 ∨ (if p = g then (1 : Int) else 0) = 1
    split
    · exact .inr rfl
    · exact .inl rfl
  | succ n =>
    rw [fdB_s]
    split
    · exact .inl rfl
    · exact .inr rfl
theorem finds_ml {A dv : Int → Int} {μ : Mem} {La p g i0 : Int} {n : Nat} {rec : Nat → Int → Int → Int → Int → Int → Mem → Option (Int × Mem)} (hR : LR μ La A) (ok : okA A) (p0 : 0 ≤ p) (p7 : p < 7) (i00 : 0 ≤ i0) (i06 : i0 + n + 1 ≤ 6)
    (hrec : ∀ dv' q ρ, RS A dv' ρ → 0 ≤ q → q < 7 → ∃ ρ', rec 0 111 q g (i0 + 1) (i0 + n + 1) ρ = some (fdB A g n dv' q, ρ') ∧ FD (i0 + 1) ρ ρ' ∧ (fdB A g n dv' q = 1 → ∀ t : Int, 0 ≤ t → t < n → ρ' 120 (i0 + 1 + t) = fdP A g n dv' q t)) :
    ∀ (d m : Nat) (l : Int) (ρ : Mem), 0 ≤ l → l + d = A 2 → d < m → RS A dv ρ → ∃ ρ', f_X12_finds_w20 rec m 111 p g i0 (i0 + n + 1) l ρ = some (if fdF (fdT A g n dv p) d l = -1 then 0 else 1, ρ') ∧ FD i0 ρ ρ' ∧
      (∀ k, fdF (fdT A g n dv p) d l = k → k ≠ -1 → ρ' 120 i0 = k ∧ ∀ t : Int, 0 ≤ t → t < n → ρ' 120 (i0 + 1 + t) = fdP A g n (upF dv k (wornM A k (dv k) (A 66))) (oeM A k p) t) := by
  have L9 := ok.2.1.2
  have K7 := ok.1.2
  intro d
  induction d with
  | zero =>
    intro m l ρ l0 ld hm hS
    obtain ⟨m, rfl⟩ : ∃ q, m = q + 1 := ⟨m - 1, by omega⟩
    have e2 : ρ 112 2 = A 2 := hS.1 2 (by omega)
    refine ⟨ρ, ?_, FD_rf, fun k h1 h2 => absurd h1.symm h2⟩
    rw [f_X12_finds_w20, show (111 + 1 : Int) = 112 from rfl, e2, nrm_id (z := A 2) (by omega) (by omega), nrm_id (z := l) (by omega) (by omega), if_pos (by omega)]
    rfl
  | succ d ih =>
    intro m l ρ l0 ld hm hS
    obtain ⟨m, rfl⟩ : ∃ q, m = q + 1 := ⟨m - 1, by omega⟩
    have e2 : ρ 112 2 = A 2 := hS.1 2 (by omega)
    obtain ⟨d1, d2, d3⟩ := hS.2 l l0 (by omega)
    have ho := oeM_in (k := p) hR l0 (by omega : l < A 2)
    obtain ⟨ρ2, p1, p2⟩ := RS_may hS hR ok l0 (by omega) d2 d3
    have hS2 : RS A dv ρ2 := RS_co hS (fun i => p2 112 i (by decide) (by decide))
    have f2 : FD i0 ρ (ms ρ2 120 i0 l) := by
      intro c i x1 x2 x3
      rw [ms_at, if_neg (by omega)]
      exact p2 c i x1 x2
    have hS2' : RS A dv (ms ρ2 120 i0 l) := RS_co hS (fun i => f2 112 i (by decide) (by decide) (by omega))
    obtain ⟨ρ3, q1, q2⟩ := RS_worn hS2' hR ok l0 (by omega) d2 d3
    have s3 := FD_tr f2 (FD_w q2)
    have hS3 : RS A dv ρ3 := RS_co hS (fun i => s3 112 i (by decide) (by decide) (by omega))
    have wi := wornM_in (A := A) (l := l) (r := A 66) d2 d3
    obtain ⟨ρ4, r1, r2, r3⟩ := hrec (upF dv l (wornM A l (dv l) (A 66))) (if oeM A l p = -1 then 0 else oeM A l p) (ms ρ3 112 (56 + l) (wornM A l (dv l) (A 66))) (RS_up hS3 ok l0 (by omega) wi.1 wi.2) (by split <;> omega) (by split <;> omega)
    have m01 := mayM_01 A l (dv l) (A 66) (A 65)
    rw [f_X12_finds_w20, show (111 + 1 : Int) = 112 from rfl, e2, nrm_id (z := A 2) (by omega) (by omega), nrm_id (z := l) (by omega) (by omega), if_neg (by omega), bn_eq (RS_oe hS hR ok l0 (by omega) (nrm_id (by omega) (by omega))), nrm_id (z := 56 + l) (by omega) (by omega), gd_pos (by omega), nm_eq, d1, nrm_id (z := oeM A l p) (by omega) (by omega), show nrm (-1) = -1 from rfl, fdF_s]
    unfold f_X12_finds_j138
    by_cases z : oeM A l p = -1
    · rw [if_pos z]
      have ht : fdT A g n dv p l = 0 := if_neg (fun q => q.1 z)
      rw [if_neg (show ¬ (fdT A g n dv p l ≠ 0) from fun q => q ht)]
      exact ih m (l + 1) ρ (by omega) (by omega) (by omega) hS
    · rw [if_neg z, bn_eq p1, nrm_id (z := mayM A l (dv l) (A 66) (A 65)) (by omega) (by omega)]
      rw [if_neg z] at r1 r3
      by_cases y : mayM A l (dv l) (A 66) (A 65) = 0
      · rw [if_pos y]
        have ht : fdT A g n dv p l = 0 := if_neg (fun q => q.2 y)
        rw [if_neg (show ¬ (fdT A g n dv p l ≠ 0) from fun q => q ht)]
        obtain ⟨ρ', y1, y2, y3⟩ := ih m (l + 1) ρ2 (by omega) (by omega) (by omega) hS2
        exact ⟨ρ', y1, FD_tr (FD_w p2) y2, y3⟩
      · have ht : fdT A g n dv p l = fdB A g n (upF dv l (wornM A l (dv l) (A 66))) (oeM A l p) := if_pos ⟨z, y⟩
        have b01 := fdB_01 A g n (upF dv l (wornM A l (dv l) (A 66))) (oeM A l p)
        rw [if_neg y, nrm_id (z := i0) (by omega) (by omega), gd_pos (by omega), nm_eq, show (111 + 9 : Int) = 120 from rfl, bn_eq q1, gd_pos (by omega), nm_eq, bn_eq r1, gd_pos (by omega), nm_eq, nrm_id (z := fdB A g n (upF dv l (wornM A l (dv l) (A 66))) (oeM A l p)) (by omega) (by omega), ht]
        have s5 : FD i0 ρ (ms ρ4 112 (56 + l) (dv l)) := by
          intro c i x1 x2 x3
          by_cases e : c = 112 ∧ i = 56 + l
          · rw [e.1, e.2, ms_eq, d1]
          · rw [ms_at, if_neg e, r2 c i x1 x2 (by omega), ms_at, if_neg e, s3 c i x1 x2 x3]
        have e120 : ρ4 120 i0 = l := by
          rw [r2 120 i0 (by decide) (by decide) (by omega), ms_nc (by decide), q2 120 i0 (by decide) (by decide), ms_eq]
        by_cases x : fdB A g n (upF dv l (wornM A l (dv l) (A 66))) (oeM A l p) = 0
        · rw [if_pos x, if_neg (show ¬ (fdB A g n (upF dv l (wornM A l (dv l) (A 66))) (oeM A l p) ≠ 0) from fun q => q x)]
          obtain ⟨ρ', y1, y2, y3⟩ := ih m (l + 1) (ms ρ4 112 (56 + l) (dv l)) (by omega) (by omega) (by omega) (RS_co hS (fun i => s5 112 i (by decide) (by decide) (by omega)))
          exact ⟨ρ', y1, FD_tr s5 y2, y3⟩
        · rw [if_neg x, if_pos (show fdB A g n (upF dv l (wornM A l (dv l) (A 66))) (oeM A l p) ≠ 0 from x), if_neg (by omega)]
          refine ⟨_, rfl, s5, ?_⟩
          intro k hk _
          subst hk
          refine ⟨by rw [ms_nc (by decide)]; exact e120, fun t t0 t1 => ?_⟩
          rw [ms_nc (by decide)]
          exact r3 (by omega) t t0 t1
theorem finds_m {A : Int → Int} {μ : Mem} {La g : Int} (hR : LR μ La A) (ok : okA A) (g0 : 0 ≤ g) (g7 : g < 7) : ∀ (n fu : Nat) (dv : Int → Int) (p i0 : Int) (ρ : Mem), 0 ≤ i0 → i0 + n ≤ 6 → n < fu → RS A dv ρ → 0 ≤ p → p < 7 →
    ∃ ρ', g_X12_finds fu 0 111 p g i0 (i0 + n) ρ = some (fdB A g n dv p, ρ') ∧ FD i0 ρ ρ' ∧ (fdB A g n dv p = 1 → ∀ t : Int, 0 ≤ t → t < n → ρ' 120 (i0 + t) = fdP A g n dv p t) := by
  have L0 := ok.2.1.1
  have L9 := ok.2.1.2
  intro n
  induction n with
  | zero =>
    intro fu dv p i0 ρ i00 hn hf hS p0 p7
    obtain ⟨fu, rfl⟩ : ∃ q, fu = q + 1 := ⟨fu - 1, by omega⟩
    refine ⟨ρ, ?_, FD_rf, fun _ t t0 t1 => by omega⟩
    show b_X12_finds (g_X12_finds fu) 111 p g i0 (i0 + (0 : Nat)) ρ = some (if p = g then 1 else 0, ρ)
    unfold b_X12_finds
    rw [show i0 + ((0 : Nat) : Int) = i0 by omega, if_pos rfl, nrm_id (z := p) (by omega) (by omega), nrm_id (z := g) (by omega) (by omega)]
    split <;> rfl
  | succ n ih =>
    intro fu dv p i0 ρ i00 hn hf hS p0 p7
    obtain ⟨fu, rfl⟩ : ∃ q, fu = q + 1 := ⟨fu - 1, by omega⟩
    obtain ⟨ρ2, y1, y2, y3⟩ := finds_ml (rec := g_X12_finds fu) (n := n) (g := g) hR ok p0 p7 i00 (by omega) (fun dv' q ρ h q0 q7 => by
      have := ih fu dv' q (i0 + 1) ρ (by omega) (by omega) (by omega) h q0 q7
      rw [show i0 + 1 + (n : Int) = i0 + n + 1 by omega] at this
      exact this) (A 2).toNat FU 0 ρ (by decide) (by omega) (by unfold FU; omega) hS
    refine ⟨ρ2, ?_, y2, ?_⟩
    · show b_X12_finds (g_X12_finds fu) 111 p g i0 (i0 + ((n + 1 : Nat) : Int)) ρ = _
      unfold b_X12_finds
      rw [show i0 + ((n + 1 : Nat) : Int) = i0 + n + 1 by omega, nrm_id (z := i0) (by omega) (by omega), nrm_id (z := i0 + n + 1) (by omega) (by omega), if_neg (by omega), y1, fdB_s]
    · intro h t t0 t1
      rw [fdB_s] at h
      by_cases e : fdF (fdT A g n dv p) (A 2).toNat 0 = -1
      · rw [if_pos e] at h; exact absurd h (by decide)
      · obtain ⟨z1, z2⟩ := y3 _ rfl e
        by_cases t9 : t = 0
        · rw [t9, Int.add_zero, z1, fdP_0]
        · obtain ⟨u, rfl⟩ : ∃ u, t = u + 1 := ⟨t - 1, by omega⟩
          rw [fdP_s rfl (by omega), show i0 + (u + 1) = i0 + 1 + u by omega]
          exact z2 u (by omega) (by omega)
theorem fdF_no {B : Int → Int} : ∀ (d : Nat) (l : Int), (∀ k, l ≤ k → k < l + d → B k = 0) → fdF B d l = -1
  | 0, _, _ => rfl
  | d + 1, l, h => by
    rw [fdF_s, if_neg (fun q => q (h l (by omega) (by omega))), fdF_no d (l + 1) (fun k h1 h2 => h k (by omega) (by omega))]
theorem fd_far {μ : Mem} {La g : Int} {A D : Int → Int} (hR : LR μ La A) (g0 : 0 ≤ g) (g7 : g < 7) (hD : isD (EdG A (wO A)) g D) : ∀ (n : Nat) (dv : Int → Int) (p : Int), 0 ≤ p → p < 7 → opn A dv → (D p = farI ∨ (n : Int) < D p) → fdB A g n dv p = 0
  | 0, dv, p, p0, p7, ho, h => by
    show (if p = g then (1 : Int) else 0) = 0
    rw [if_neg]
    intro e
    rw [e, hD.1.1] at h
    have hf : farI = 268435456 := rfl
    omega
  | n + 1, dv, p, p0, p7, ho, h => by
    have h2 := hR.2.1
    rw [fdB_s, if_pos]
    apply fdF_no
    intro l l0 l1
    unfold fdT
    by_cases c : oeM A l p ≠ -1 ∧ mayM A l (dv l) (A 66) (A 65) ≠ 0
    · rw [if_pos c]
      have hl := ho l l0 (by omega) c.2
      have hoi := oeM_in (k := p) hR l0 (by omega : l < A 2)
      have k7 := hR.1.2.2
      refine fd_far hR g0 g7 hD n _ _ (by omega) (by omega) (opn_up ho hl) ?_
      by_cases z : D (oeM A l p) = farI
      · exact .inl z
      · have := D_step hR hD l0 (by omega) c.1 hl z
        have hi := hD.1.2.1 (oeM A l p) (by omega) (by omega)
        have hb := hD.1.2.2.2 (oeM A l p) (by omega) (by omega) z
        have nf := nfin_in D
        have hf : farI = 268435456 := rfl
        refine .inr ?_
        omega
    · rw [if_neg c]
theorem fdF_on {A w F B : Int → Int} {p : Int} : ∀ (d : Nat) (l : Int), 0 ≤ l → (∀ k, l ≤ k → k < l + d → (B k ≠ 0 ↔ (oeM A k p ≠ -1 ∧ w k ≠ -1 ∧ F (oeM A k p) ≠ farI ∧ F (oeM A k p) + w k = F p))) → fdF B d l = onL A w F p d l
  | 0, _, _, _ => rfl
  | d + 1, l, l0, h => by
    unfold onL
    rw [fdF_s, fdF_on d (l + 1) (by omega) (fun k h1 h2 => h k (by omega) (by omega))]
    by_cases c : oeM A l p ≠ -1 ∧ w l ≠ -1 ∧ F (oeM A l p) ≠ farI ∧ F (oeM A l p) + w l = F p
    · rw [if_pos ((h l (by omega) (by omega)).mpr c), if_pos c]
    · rw [if_neg (fun q => c ((h l (by omega) (by omega)).mp q)), if_neg c]
/-- Lanes whose depth is another lie no nearer. -/
def wnF (A D dv : Int → Int) (x : Int) : Prop := ∀ l, 0 ≤ l → l < A 2 → dv l = A (56 + l) ∨ (x ≤ D (A (11 + l)) ∧ x ≤ D (A (20 + l)))
theorem oe_end {A : Int → Int} {l p : Int} (h : oeM A l p ≠ -1) : (A (11 + l) = p ∧ A (20 + l) = oeM A l p) ∨ (A (20 + l) = p ∧ A (11 + l) = oeM A l p) := by
  unfold oeM at h ⊢
  by_cases e : A (11 + l) = p
  · rw [if_pos e]; exact .inl ⟨e, rfl⟩
  · rw [if_neg e] at h ⊢
    by_cases e2 : A (20 + l) = p
    · rw [if_pos e2]; exact .inr ⟨e2, rfl⟩
    · rw [if_neg e2] at h; exact absurd rfl h
theorem fd_near {μ : Mem} {La g : Int} {A D : Int → Int} (hR : LR μ La A) (g0 : 0 ≤ g) (g7 : g < 7) (hD : isD (EdG A (wO A)) g D) : ∀ (n : Nat) (dv : Int → Int) (p : Int) (r : Nat), 0 ≤ p → p < 7 → opn A dv → D p = n → wnF A D dv n → n ≤ r → n ≤ 6 → fdB A g n dv p = 1 ∧ ∀ t : Int, 0 ≤ t → t < n → fdP A g n dv p t = wyM A (wO A) D r p t
  | 0, dv, p, r, p0, p7, ho, h, hw, hr, h6 => by
    refine ⟨?_, fun t t0 t1 => by omega⟩
    have := D_zero hR (wO_ok A) hD p0 p7 (by omega)
    show (if p = g then (1 : Int) else 0) = 1
    rw [if_pos this]
  | n + 1, dv, p, r, p0, p7, ho, h, hw, hr, h6 => by
    have h2 := hR.2.1
    have k7 := hR.1.2.2
    have hf : farI = 268435456 := rfl
    have nf := nfin_in D
    obtain ⟨r, rfl⟩ : ∃ q, r = q + 1 := ⟨r - 1, by omega⟩
    have hbp := hD.1.2.1 p p0 p7
    have pf : D p ≠ farI := by omega
    have nx : ∀ l, 0 ≤ l → l < A 2 → (oeM A l p ≠ -1 ∧ wO A l ≠ -1 ∧ D (oeM A l p) ≠ farI ∧ D (oeM A l p) + wO A l = D p) → wO A l = 1 ∧ D (oeM A l p) = n ∧ mayM A l (dv l) (A 66) (A 65) ≠ 0 ∧ opn A (upF dv l (wornM A l (dv l) (A 66))) ∧ wnF A D (upF dv l (wornM A l (dv l) (A 66))) n := by
      intro l l0 l1 c
      have hoi := oeM_in (k := p) hR l0 l1
      have op : openM A l = 1 := by
        apply Classical.byContradiction
        intro q
        exact c.2.1 (if_neg q)
      have w1 : wO A l = 1 := if_pos op
      have dq : D (oeM A l p) = n := by omega
      have en := oe_end c.1
      have dl : dv l = A (56 + l) := by
        rcases hw l l0 l1 with q | ⟨q1, q2⟩
        · exact q
        · exfalso
          rcases en with ⟨e1, e2⟩ | ⟨e1, e2⟩
          · rw [e2] at q2; omega
          · rw [e2] at q1; omega
      refine ⟨w1, dq, ?_, opn_up ho op, ?_⟩
      · rw [dl]
        unfold openM at op
        omega
      · intro m m0 m1
        by_cases e : m = l
        · refine .inr ?_
          rw [e]
          rcases en with ⟨e1, e2⟩ | ⟨e1, e2⟩ <;> rw [e1, e2] <;> omega
        · rw [upF_ne e]
          rcases hw m m0 m1 with q | ⟨q1, q2⟩
          · exact .inl q
          · exact .inr ⟨by omega, by omega⟩
    have on : fdF (fdT A g n dv p) (A 2).toNat 0 = onL A (wO A) D p (A 2).toNat 0 := by
      apply fdF_on _ _ (by decide)
      intro l l0 l1
      have hoi := oeM_in (k := p) hR l0 (by omega : l < A 2)
      unfold fdT
      constructor
      · intro q
        by_cases c : oeM A l p ≠ -1 ∧ mayM A l (dv l) (A 66) (A 65) ≠ 0
        · rw [if_pos c] at q
          have hl := ho l l0 (by omega) c.2
          have w1 : wO A l = 1 := if_pos hl
          have nfar : ¬ (D (oeM A l p) = farI ∨ (n : Int) < D (oeM A l p)) := fun x => q (fd_far hR g0 g7 hD n _ _ (by omega) (by omega) (opn_up ho hl) x)
          have zf : D (oeM A l p) ≠ farI := fun x => nfar (.inl x)
          have := D_step hR hD l0 (by omega) c.1 hl zf
          refine ⟨c.1, by omega, zf, ?_⟩
          have : ¬ ((n : Int) < D (oeM A l p)) := fun x => nfar (.inr x)
          omega
        · rw [if_neg c] at q
          exact absurd rfl q
      · intro c
        obtain ⟨x1, x2, x3, x4, x5⟩ := nx l l0 (by omega) c
        rw [if_pos ⟨c.1, x3⟩, (fd_near hR g0 g7 hD n _ (oeM A l p) n (by omega) (by omega) x4 x2 x5 (Nat.le_refl n) (by omega)).1]
        decide
    obtain ⟨q1, q2, q3, q4, q5, q6, q7, _⟩ := onL_D hR (wO_ok A) g0 g7 hD p0 p7 pf (by omega)
    have nn : ¬ (D p = farI ∨ D p = 0) := by omega
    refine ⟨?_, ?_⟩
    · rw [fdB_s, on, if_neg (by omega)]
    · intro t t0 t1
      unfold wyM
      rw [if_neg nn]
      by_cases e : t = 0
      · rw [if_pos e, e, fdP_0, on]
      · obtain ⟨u, rfl⟩ : ∃ u, t = u + 1 := ⟨t - 1, by omega⟩
        rw [if_neg e, fdP_s on (by omega), show u + 1 - 1 = u by omega]
        obtain ⟨x1, x2, x3, x4, x5⟩ := nx _ q1 q2 ⟨by omega, q5, q6, q7⟩
        exact (fd_near hR g0 g7 hD n _ _ r q3 q4 x4 x2 x5 (by omega) (by omega)).2 u (by omega) (by omega)
