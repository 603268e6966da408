/-- Behind a fault the reference reads on, and does nothing. -/
theorem no0 {fu : Nat} {d : Int} {ρ : Mem} (h : 1 ≤ ρ 111 11) (h4 : ρ 111 11 ≤ 4) : g_X12_readAtom (fu + 1) 0 111 d ρ = some (0, ρ) := by
  show b_X12_readAtom (g_X12_readAtom fu) 111 d ρ = _
  unfold b_X12_readAtom f_X12_readAtom_j66
  rw [bn_eq (is_no h h4), if_pos (by decide : nrm 0 = 0), nrm_id (z := ρ 111 11) (by omega) (by omega), if_neg (by omega), bn_eq (is_no h h4), if_pos (by decide : nrm 0 = 0), bn_eq (is_no h h4), if_pos (by decide : nrm 0 = 0), bn_eq (fails_no h h4)]
theorem no4 {fu : Nat} {d : Int} {ρ : Mem} (h : 1 ≤ ρ 111 11) (h4 : ρ 111 11 ≤ 4) : g_X12_readAtom (fu + 2) 4 111 d ρ = some (0, ρ) := by
  show b_X12_readTerm (g_X12_readAtom (fu + 1)) 111 d ρ = _
  unfold b_X12_readTerm
  rw [bn_eq (no0 h h4)]
  show f_X12_readTerm_w5 _ (9999 + 1) 111 d ρ = _
  rw [f_X12_readTerm_w5, bn_eq (eats_no h h4), if_pos (by decide : nrm 0 = 0)]
theorem no3 {fu : Nat} {d : Int} {ρ : Mem} (h : 1 ≤ ρ 111 11) (h4 : ρ 111 11 ≤ 4) : g_X12_readAtom (fu + 3) 3 111 d ρ = some (0, ρ) := by
  show b_X12_readSum (g_X12_readAtom (fu + 2)) 111 d ρ = _
  unfold b_X12_readSum
  rw [bn_eq (no4 h h4)]
  show f_X12_readSum_w5 _ (9999 + 1) 111 d ρ = _
  rw [f_X12_readSum_w5, bn_eq (is_no h h4), if_pos (by decide : nrm 0 = 0), bn_eq (is_no h h4), if_pos (by decide : nrm 0 = 0)]
theorem no6 {fu : Nat} {d : Int} {ρ : Mem} (h : 1 ≤ ρ 111 11) (h4 : ρ 111 11 ≤ 4) : g_X12_readAtom (fu + 4) 6 111 d ρ = some (0, ρ) := by
  show b_X12_readUnit (g_X12_readAtom (fu + 3)) 111 d ρ = _
  unfold b_X12_readUnit f_X12_readUnit_j111 f_X12_readUnit_j151
  rw [bn_eq (is_no h h4), if_pos (by decide : nrm 0 = 0), bn_eq (is_no h h4), if_pos (by decide : nrm 0 = 0), bn_eq (no3 h h4), bn_eq (is_no h h4), if_pos (by decide : nrm 0 = 0), bn_eq (is_no h h4), if_pos (by decide : nrm 0 = 0), bn_eq (is_no h h4), if_pos (by decide : nrm 0 = 0), bn_eq (is_no h h4), if_pos (by decide : nrm 0 = 0), bn_eq (is_no h h4), if_pos (by decide : nrm 0 = 0), bn_eq (fails_no h h4), bn_eq (no3 h h4), bn_eq (codes_no h h4)]
theorem no1 {fu : Nat} {d : Int} {ρ : Mem} (h : 1 ≤ ρ 111 11) (h4 : ρ 111 11 ≤ 4) : g_X12_readAtom (fu + 5) 1 111 d ρ = some (0, ρ) := by
  show b_X12_readBoth (g_X12_readAtom (fu + 4)) 111 d ρ = _
  unfold b_X12_readBoth
  rw [bn_eq (no6 h h4)]
  show f_X12_readBoth_w5 _ (9999 + 1) 111 d ρ = _
  rw [f_X12_readBoth_w5, bn_eq (eats_no h h4), if_pos (by decide : nrm 0 = 0)]
theorem no5 {fu : Nat} {d : Int} {ρ : Mem} (h : 1 ≤ ρ 111 11) (h4 : ρ 111 11 ≤ 4) : g_X12_readAtom (fu + 6) 5 111 d ρ = some (0, ρ) := by
  show b_X12_readTruth (g_X12_readAtom (fu + 5)) 111 d ρ = _
  unfold b_X12_readTruth
  rw [bn_eq (no1 h h4)]
  show f_X12_readTruth_w5 _ (9999 + 1) 111 d ρ = _
  rw [f_X12_readTruth_w5, bn_eq (eats_no h h4), if_pos (by decide : nrm 0 = 0)]
theorem bin2 {n La w : Int} {T : Int → Int} {B : Nat} {b : Bool} {F : Nat → Int → Int → Mem → Option (Int × Mem)} {G recC recR : Nat → Mem → Option (Int × Mem)}
    (hrec : ∀ μ ρ a K V N, ES n T La w μ ρ a K V N → Res n T La w N a B b μ ρ (recC 0 μ) (recR 0 ρ))
    (hF0 : ∀ m x3 μ, F (m + 1) 0 x3 μ = some (0, μ))
    (hGb : ∀ m ρ, 1 ≤ ρ 111 11 → ρ 111 11 ≤ 4 → G (m + 1) ρ = some (0, ρ))
    (hb : ∀ (e m m' : Nat) (x3 : Int) (μ ρ : Mem) (a K V N : Int), n - a ≤ e → e + 1 < m → e + 1 < m' → 0 ≤ x3 → x3 < a → ES n T La w μ ρ a K V N →
    ∃ r μ' ρ', F m 1 x3 μ = some (r, μ') ∧ G m' ρ = some (0, ρ') ∧ FrE La μ μ' ∧ FrS ρ ρ' ∧ ((r = 1 ∧ ∃ a' K' V' N', ES n T La w μ' ρ' a' K' V' N' ∧ N ≤ N' ∧ N' - N ≤ a' - a ∧ (∀ j, 0 ≤ j → j < N → ρ' 115 (200 + j) = ρ 115 (200 + j)) ∧ (∀ s : List Bool, s.length + 1 + B ≤ 64 → tyR w (fun j => ρ' 115 (200 + j)) (N' - N).toNat N (b :: s) = some (b :: s))) ∨ (r = 0 ∧ Bd μ' ρ')))
    {μ ρ : Mem} {a K V N : Int} (hE : ES n T La w μ ρ a K V N) : Res n T La w N a (B + 1) b μ ρ (bn (recC 0 μ) fun r μ1 => F FU r 0 μ1) (bn (recR 0 ρ) fun _ ρ1 => G FU ρ1) := by
  obtain ⟨r, μ1, ρ1, r1, r2, r3, r4, r5⟩ := hrec μ ρ a K V N hE
  have n0 := hE.2.2.2.2.2.2.2.1
  have a0 := hE.1.2.2.1
  rcases r5 with ⟨rfl, a1, K1, V1, N1, g1, g2, g3, g4, g5⟩ | ⟨rfl, hbd⟩
  · have a9 := g1.1.2.2.1
    have n9 := g1.1.1.2.1
    obtain ⟨r', μ', ρ', y1, y2, y3, y4, y5⟩ := hb (n - a1).toNat FU FU 0 μ1 ρ1 a1 K1 V1 N1 (by omega) (by unfold FU; omega) (by unfold FU; omega) (by omega) (by omega) g1
    refine ⟨r', μ', ρ', by rw [bn_eq r1]; exact y1, by rw [bn_eq r2]; exact y2, FrE_tr r3 y3, FrS_tr r4 y4, ?_⟩
    rcases y5 with ⟨z0, a', K', V', N', z1, z2, z3, z4, z5⟩ | z
    · refine .inl ⟨z0, a', K', V', N', z1, by omega, by omega, fun j j0 j1 => by rw [z4 j j0 (by omega), g4 j j0 j1], fun s hs => ?_⟩
      have t1 : tyR w (fun j => ρ' 115 (200 + j)) (N1 - N).toNat N s = some (b :: s) := by
        rw [tyR_cg2 (cd' := fun j => ρ1 115 (200 + j)) _ _ _ (fun i i0 i1 => by rw [z4 i (by omega) (by omega)])]
        exact g5 s (by omega)
      exact ty_seq (by omega) (by omega) t1 (z5 s (by omega))
    · exact .inr z
  · refine ⟨0, μ1, ρ1, by rw [bn_eq r1]; exact hF0 9999 0 μ1, by rw [bn_eq r2]; exact hGb 9999 ρ1 hbd.1 hbd.2.1, r3, r4, .inr ⟨rfl, hbd⟩⟩
theorem rd4 {n La w : Int} {T : Int → Int} {B : Nat} {rC rR : Nat → Int → Int → Mem → Option (Int × Mem)} {d : Int}
    (hrec : ∀ μ ρ a K V N, ES n T La w μ ρ a K V N → Res n T La w N a B false μ ρ (rC 0 2 d μ) (rR 0 111 d ρ)) {μ ρ : Mem} {a K V N : Int} (hE : ES n T La w μ ρ a K V N) :
    Res n T La w N a (B + 1) false μ ρ (b_X7_readTerm rC 2 d μ) (b_X12_readTerm rR 111 d ρ) := by
  have hL := hE.2.2.2.1
  have hF0 : ∀ (m : Nat) (x3 : Int) (μ : Mem), f_X7_readTerm_w8 rC (m + 1) 2 d 0 x3 μ = some (0, μ) := by
    intro m x3 μ
    rw [f_X7_readTerm_w8, if_pos (by decide : nrm 0 = 0), gd_pos (by decide : isB 0)]
    split <;> rfl
  have hGb : ∀ (m : Nat) (ρ : Mem), 1 ≤ ρ 111 11 → ρ 111 11 ≤ 4 → f_X12_readTerm_w5 rR (m + 1) 111 d ρ = some (0, ρ) := by
    intro m ρ h h4
    rw [f_X12_readTerm_w5, bn_eq (eats_no h h4), if_pos (by decide : nrm 0 = 0)]
  have k1 : kOk 34 := by unfold kOk; decide
  refine bin2 (recC := fun _ μ => rC 0 2 d μ) (recR := fun _ ρ => rR 0 111 d ρ) (F := fun m r x3 μ => f_X7_readTerm_w8 rC m 2 d r x3 μ) (G := fun m ρ => f_X12_readTerm_w5 rR m 111 d ρ) hrec hF0 hGb (bin (recC := fun _ μ => rC 0 2 d μ) (recR := fun _ ρ => rR 0 111 d ρ) (op := fun K => if K = 34 then some (3002, 4) else none) hrec hF0 ?_ ?_ ?_ ?_ hGb ?_) hE
  · intro m x3 μ K hk h0 x0 x9 ho
    have nk : K ≠ 34 := fun q => by rw [if_pos q] at ho; cases ho
    show f_X7_readTerm_w8 rC (m + 1) 2 d 1 x3 μ = _
    rw [f_X7_readTerm_w8, nrm_id (z := x3) (by omega) (by omega), if_neg (by show ¬ ((900 : Int) ≤ x3); omega), if_neg (by decide : ¬ nrm 1 = 0), show (2 + 1 : Int) = 3 from rfl, h0, cK_n hk, show nrm 42 = cK 34 by decide, if_neg (fun q => nk ((cK_inj hk k1).mp q)), gd_pos (by decide : isB 1)]
  · intro m x3 μ K c x hk h0 x0 x9 ho r μ7 μ10 μ14 e7 e10 e1 e14
    have nk : K = 34 := by
      by_cases q : K = 34
      · exact q
      · rw [if_neg q] at ho; cases ho
    rw [if_pos nk] at ho
    injection ho with ho
    injection ho with ho1 ho2
    subst ho2
    show f_X7_readTerm_w8 rC (m + 1) 2 d 1 x3 μ = _
    rw [f_X7_readTerm_w8, nrm_id (z := x3) (by omega) (by omega), if_neg (by show ¬ ((900 : Int) ≤ x3); omega), if_neg (by decide : ¬ nrm 1 = 0), show (2 + 1 : Int) = 3 from rfl, h0, cK_n hk, show nrm 42 = cK 34 by decide, if_pos ((cK_inj hk k1).mpr nk), bn_eq e7, bn_eq e10, e1, gd_pos (isL_k hL), bn_eq e14]
  · intro m ρ K hk h9 h11 ho
    have nk : K ≠ 34 := fun q => by rw [if_pos q] at ho; cases ho
    have hi : f_X12_is 111 34 ρ = some (0, ρ) := by
      rw [is_eq, h9, if_neg]
      intro q
      have := q.2
      rw [nrm_id (z := K) (by have := hk.1; omega) (by have := hk.2.1; omega)] at this
      exact nk this
    show f_X12_readTerm_w5 rR (m + 1) 111 d ρ = _
    unfold f_X12_readTerm_w5 f_X12_eats
    rw [bn_eq hi, if_pos (by decide : nrm 0 = 0), bn_eq rfl, if_pos (by decide : nrm 0 = 0)]
  · intro m ρ K c x hk h9 h11 ho ρ1 ρ5 ρ8 e1 e5 e8
    have nk : K = 34 := by
      by_cases q : K = 34
      · exact q
      · rw [if_neg q] at ho; cases ho
    rw [if_pos nk] at ho
    injection ho with ho
    injection ho with ho1 ho2
    subst ho1
    have hi : f_X12_is 111 34 ρ = some (1, ρ) := by
      rw [is_eq, h9, h11, nk, if_pos ⟨by decide, rfl⟩]
    show f_X12_readTerm_w5 rR (m + 1) 111 d ρ = f_X12_readTerm_w5 rR m 111 d ρ8
    rw [f_X12_readTerm_w5]
    unfold f_X12_eats
    rw [bn_eq hi, if_neg (by decide : ¬ nrm 1 = 0), bn_eq e1, bn_eq rfl, if_neg (by decide : ¬ nrm 1 = 0), bn_eq e5, bn_eq e8]
  · intro K c x ho
    have nk : K = 34 := by
      by_cases q : K = 34
      · exact q
      · rw [if_neg q] at ho; cases ho
    rw [if_pos nk] at ho
    injection ho with ho
    injection ho with ho1 ho2
    subst ho1; subst ho2
    exact ⟨by decide, by omega, fun s => by rcases hE.2.2.2.2.2.2.1 with q | q <;> rw [q] <;> rfl⟩
theorem rd1 {n La w : Int} {T : Int → Int} {B : Nat} {rC rR : Nat → Int → Int → Mem → Option (Int × Mem)} {d : Int}
    (hrec : ∀ μ ρ a K V N, ES n T La w μ ρ a K V N → Res n T La w N a B true μ ρ (rC 6 2 d μ) (rR 6 111 d ρ)) {μ ρ : Mem} {a K V N : Int} (hE : ES n T La w μ ρ a K V N) :
    Res n T La w N a (B + 1) true μ ρ (b_X7_readBoth rC 2 d μ) (b_X12_readBoth rR 111 d ρ) := by
  have hL := hE.2.2.2.1
  have hF0 : ∀ (m : Nat) (x3 : Int) (μ : Mem), f_X7_readBoth_w8 rC (m + 1) 2 d 0 x3 μ = some (0, μ) := by
    intro m x3 μ
    rw [f_X7_readBoth_w8, if_pos (by decide : nrm 0 = 0), gd_pos (by decide : isB 0)]
    split <;> rfl
  have hGb : ∀ (m : Nat) (ρ : Mem), 1 ≤ ρ 111 11 → ρ 111 11 ≤ 4 → f_X12_readBoth_w5 rR (m + 1) 111 d ρ = some (0, ρ) := by
    intro m ρ h h4
    rw [f_X12_readBoth_w5, bn_eq (eats_no h h4), if_pos (by decide : nrm 0 = 0)]
  have k1 : kOk 19 := by unfold kOk; decide
  refine bin2 (recC := fun _ μ => rC 6 2 d μ) (recR := fun _ ρ => rR 6 111 d ρ) (F := fun m r x3 μ => f_X7_readBoth_w8 rC m 2 d r x3 μ) (G := fun m ρ => f_X12_readBoth_w5 rR m 111 d ρ) hrec hF0 hGb (bin (recC := fun _ μ => rC 6 2 d μ) (recR := fun _ ρ => rR 6 111 d ρ) (op := fun K => if K = 19 then some (3007, 9) else none) hrec hF0 ?_ ?_ ?_ ?_ hGb ?_) hE
  · intro m x3 μ K hk h0 x0 x9 ho
    have nk : K ≠ 19 := fun q => by rw [if_pos q] at ho; cases ho
    show f_X7_readBoth_w8 rC (m + 1) 2 d 1 x3 μ = _
    rw [f_X7_readBoth_w8, nrm_id (z := x3) (by omega) (by omega), if_neg (by show ¬ ((900 : Int) ≤ x3); omega), if_neg (by decide : ¬ nrm 1 = 0), show (2 + 1 : Int) = 3 from rfl, h0, cK_n hk, show nrm 148 = cK 19 by decide, if_neg (fun q => nk ((cK_inj hk k1).mp q)), gd_pos (by decide : isB 1)]
  · intro m x3 μ K c x hk h0 x0 x9 ho r μ7 μ10 μ14 e7 e10 e1 e14
    have nk : K = 19 := by
      by_cases q : K = 19
      · exact q
      · rw [if_neg q] at ho; cases ho
    rw [if_pos nk] at ho
    injection ho with ho
    injection ho with ho1 ho2
    subst ho2
    show f_X7_readBoth_w8 rC (m + 1) 2 d 1 x3 μ = _
    rw [f_X7_readBoth_w8, nrm_id (z := x3) (by omega) (by omega), if_neg (by show ¬ ((900 : Int) ≤ x3); omega), if_neg (by decide : ¬ nrm 1 = 0), show (2 + 1 : Int) = 3 from rfl, h0, cK_n hk, show nrm 148 = cK 19 by decide, if_pos ((cK_inj hk k1).mpr nk), bn_eq e7, bn_eq e10, e1, gd_pos (isL_k hL), bn_eq e14]
  · intro m ρ K hk h9 h11 ho
    have nk : K ≠ 19 := fun q => by rw [if_pos q] at ho; cases ho
    have hi : f_X12_is 111 19 ρ = some (0, ρ) := by
      rw [is_eq, h9, if_neg]
      intro q
      have := q.2
      rw [nrm_id (z := K) (by have := hk.1; omega) (by have := hk.2.1; omega)] at this
      exact nk this
    show f_X12_readBoth_w5 rR (m + 1) 111 d ρ = _
    unfold f_X12_readBoth_w5 f_X12_eats
    rw [bn_eq hi, if_pos (by decide : nrm 0 = 0), bn_eq rfl, if_pos (by decide : nrm 0 = 0)]
  · intro m ρ K c x hk h9 h11 ho ρ1 ρ5 ρ8 e1 e5 e8
    have nk : K = 19 := by
      by_cases q : K = 19
      · exact q
      · rw [if_neg q] at ho; cases ho
    rw [if_pos nk] at ho
    injection ho with ho
    injection ho with ho1 ho2
    subst ho1
    have hi : f_X12_is 111 19 ρ = some (1, ρ) := by
      rw [is_eq, h9, h11, nk, if_pos ⟨by decide, rfl⟩]
    show f_X12_readBoth_w5 rR (m + 1) 111 d ρ = f_X12_readBoth_w5 rR m 111 d ρ8
    rw [f_X12_readBoth_w5]
    unfold f_X12_eats
    rw [bn_eq hi, if_neg (by decide : ¬ nrm 1 = 0), bn_eq e1, bn_eq rfl, if_neg (by decide : ¬ nrm 1 = 0), bn_eq e5, bn_eq e8]
  · intro K c x ho
    have nk : K = 19 := by
      by_cases q : K = 19
      · exact q
      · rw [if_neg q] at ho; cases ho
    rw [if_pos nk] at ho
    injection ho with ho
    injection ho with ho1 ho2
    subst ho1; subst ho2
    exact ⟨by decide, by omega, fun s => by rcases hE.2.2.2.2.2.2.1 with q | q <;> rw [q] <;> rfl⟩
theorem rd5 {n La w : Int} {T : Int → Int} {B : Nat} {rC rR : Nat → Int → Int → Mem → Option (Int × Mem)} {d : Int}
    (hrec : ∀ μ ρ a K V N, ES n T La w μ ρ a K V N → Res n T La w N a B true μ ρ (rC 1 2 d μ) (rR 1 111 d ρ)) {μ ρ : Mem} {a K V N : Int} (hE : ES n T La w μ ρ a K V N) :
    Res n T La w N a (B + 1) true μ ρ (b_X7_readTruth rC 2 d μ) (b_X12_readTruth rR 111 d ρ) := by
  have hL := hE.2.2.2.1
  have hF0 : ∀ (m : Nat) (x3 : Int) (μ : Mem), f_X7_readTruth_w8 rC (m + 1) 2 d 0 x3 μ = some (0, μ) := by
    intro m x3 μ
    rw [f_X7_readTruth_w8, if_pos (by decide : nrm 0 = 0), gd_pos (by decide : isB 0)]
    split <;> rfl
  have hGb : ∀ (m : Nat) (ρ : Mem), 1 ≤ ρ 111 11 → ρ 111 11 ≤ 4 → f_X12_readTruth_w5 rR (m + 1) 111 d ρ = some (0, ρ) := by
    intro m ρ h h4
    rw [f_X12_readTruth_w5, bn_eq (eats_no h h4), if_pos (by decide : nrm 0 = 0)]
  have k1 : kOk 20 := by unfold kOk; decide
  refine bin2 (recC := fun _ μ => rC 1 2 d μ) (recR := fun _ ρ => rR 1 111 d ρ) (F := fun m r x3 μ => f_X7_readTruth_w8 rC m 2 d r x3 μ) (G := fun m ρ => f_X12_readTruth_w5 rR m 111 d ρ) hrec hF0 hGb (bin (recC := fun _ μ => rC 1 2 d μ) (recR := fun _ ρ => rR 1 111 d ρ) (op := fun K => if K = 20 then some (3008, 10) else none) hrec hF0 ?_ ?_ ?_ ?_ hGb ?_) hE
  · intro m x3 μ K hk h0 x0 x9 ho
    have nk : K ≠ 20 := fun q => by rw [if_pos q] at ho; cases ho
    show f_X7_readTruth_w8 rC (m + 1) 2 d 1 x3 μ = _
    rw [f_X7_readTruth_w8, nrm_id (z := x3) (by omega) (by omega), if_neg (by show ¬ ((900 : Int) ≤ x3); omega), if_neg (by decide : ¬ nrm 1 = 0), show (2 + 1 : Int) = 3 from rfl, h0, cK_n hk, show nrm 149 = cK 20 by decide, if_neg (fun q => nk ((cK_inj hk k1).mp q)), gd_pos (by decide : isB 1)]
  · intro m x3 μ K c x hk h0 x0 x9 ho r μ7 μ10 μ14 e7 e10 e1 e14
    have nk : K = 20 := by
      by_cases q : K = 20
      · exact q
      · rw [if_neg q] at ho; cases ho
    rw [if_pos nk] at ho
    injection ho with ho
    injection ho with ho1 ho2
    subst ho2
    show f_X7_readTruth_w8 rC (m + 1) 2 d 1 x3 μ = _
    rw [f_X7_readTruth_w8, nrm_id (z := x3) (by omega) (by omega), if_neg (by show ¬ ((900 : Int) ≤ x3); omega), if_neg (by decide : ¬ nrm 1 = 0), show (2 + 1 : Int) = 3 from rfl, h0, cK_n hk, show nrm 149 = cK 20 by decide, if_pos ((cK_inj hk k1).mpr nk), bn_eq e7, bn_eq e10, e1, gd_pos (isL_k hL), bn_eq e14]
  · intro m ρ K hk h9 h11 ho
    have nk : K ≠ 20 := fun q => by rw [if_pos q] at ho; cases ho
    have hi : f_X12_is 111 20 ρ = some (0, ρ) := by
      rw [is_eq, h9, if_neg]
      intro q
      have := q.2
      rw [nrm_id (z := K) (by have := hk.1; omega) (by have := hk.2.1; omega)] at this
      exact nk this
    show f_X12_readTruth_w5 rR (m + 1) 111 d ρ = _
    unfold f_X12_readTruth_w5 f_X12_eats
    rw [bn_eq hi, if_pos (by decide : nrm 0 = 0), bn_eq rfl, if_pos (by decide : nrm 0 = 0)]
  · intro m ρ K c x hk h9 h11 ho ρ1 ρ5 ρ8 e1 e5 e8
    have nk : K = 20 := by
      by_cases q : K = 20
      · exact q
      · rw [if_neg q] at ho; cases ho
    rw [if_pos nk] at ho
    injection ho with ho
    injection ho with ho1 ho2
    subst ho1
    have hi : f_X12_is 111 20 ρ = some (1, ρ) := by
      rw [is_eq, h9, h11, nk, if_pos ⟨by decide, rfl⟩]
    show f_X12_readTruth_w5 rR (m + 1) 111 d ρ = f_X12_readTruth_w5 rR m 111 d ρ8
    rw [f_X12_readTruth_w5]
    unfold f_X12_eats
    rw [bn_eq hi, if_neg (by decide : ¬ nrm 1 = 0), bn_eq e1, bn_eq rfl, if_neg (by decide : ¬ nrm 1 = 0), bn_eq e5, bn_eq e8]
  · intro K c x ho
    have nk : K = 20 := by
      by_cases q : K = 20
      · exact q
      · rw [if_neg q] at ho; cases ho
    rw [if_pos nk] at ho
    injection ho with ho
    injection ho with ho1 ho2
    subst ho1; subst ho2
    exact ⟨by decide, by omega, fun s => by rcases hE.2.2.2.2.2.2.1 with q | q <;> rw [q] <;> rfl⟩
theorem rd3 {n La w : Int} {T : Int → Int} {B : Nat} {rC rR : Nat → Int → Int → Mem → Option (Int × Mem)} {d : Int}
    (hrec : ∀ μ ρ a K V N, ES n T La w μ ρ a K V N → Res n T La w N a B false μ ρ (rC 4 2 d μ) (rR 4 111 d ρ)) {μ ρ : Mem} {a K V N : Int} (hE : ES n T La w μ ρ a K V N) :
    Res n T La w N a (B + 1) false μ ρ (b_X7_readSum rC 2 d μ) (b_X12_readSum rR 111 d ρ) := by
  have hL := hE.2.2.2.1
  have hL4 : isK (La + 7) 4 := by
    rcases hL with q | q | q | q <;> rw [q] <;> decide +kernel
  have hF0 : ∀ (m : Nat) (x3 : Int) (μ : Mem), f_X7_readSum_w8 rC (m + 1) 2 d 0 x3 μ = some (0, μ) := by
    intro m x3 μ
    rw [f_X7_readSum_w8, if_pos (by decide : nrm 0 = 0), gd_pos (by decide : isB 0)]
    split <;> rfl
  have hGb : ∀ (m : Nat) (ρ : Mem), 1 ≤ ρ 111 11 → ρ 111 11 ≤ 4 → f_X12_readSum_w5 rR (m + 1) 111 d ρ = some (0, ρ) := by
    intro m ρ h h4
    rw [f_X12_readSum_w5, bn_eq (is_no h h4), if_pos (by decide : nrm 0 = 0), bn_eq (is_no h h4), if_pos (by decide : nrm 0 = 0)]
  have k1 : kOk 32 := by unfold kOk; decide
  have k2 : kOk 33 := by unfold kOk; decide
  have opn : ∀ {K : Int}, (if K = 32 then some ((3000 : Int), (2 : Int)) else if K = 33 then some (3001, 3) else none) = none → K ≠ 32 ∧ K ≠ 33 := by
    intro K ho
    refine ⟨fun q => ?_, fun q => ?_⟩
    · rw [if_pos q] at ho; cases ho
    · rw [if_neg (by omega), if_pos q] at ho; cases ho
  have ops : ∀ {K c x : Int}, (if K = 32 then some ((3000 : Int), (2 : Int)) else if K = 33 then some (3001, 3) else none) = some (c, x) → (K = 32 ∧ c = 3000 ∧ x = 2) ∨ (K = 33 ∧ c = 3001 ∧ x = 3) := by
    intro K c x ho
    by_cases q : K = 32
    · rw [if_pos q] at ho; injection ho with ho; injection ho with h1 h2; exact .inl ⟨q, h1.symm, h2.symm⟩
    · rw [if_neg q] at ho
      by_cases q2 : K = 33
      · rw [if_pos q2] at ho; injection ho with ho; injection ho with h1 h2; exact .inr ⟨q2, h1.symm, h2.symm⟩
      · rw [if_neg q2] at ho; cases ho
  refine bin2 (recC := fun _ μ => rC 4 2 d μ) (recR := fun _ ρ => rR 4 111 d ρ) (F := fun m r x3 μ => f_X7_readSum_w8 rC m 2 d r x3 μ) (G := fun m ρ => f_X12_readSum_w5 rR m 111 d ρ) hrec hF0 hGb (bin (recC := fun _ μ => rC 4 2 d μ) (recR := fun _ ρ => rR 4 111 d ρ) (op := fun K => if K = 32 then some (3000, 2) else if K = 33 then some (3001, 3) else none) hrec hF0 ?_ ?_ ?_ ?_ hGb ?_) hE
  · intro m x3 μ K hk h0 x0 x9 ho
    obtain ⟨n1, n2⟩ := opn ho
    show f_X7_readSum_w8 rC (m + 1) 2 d 1 x3 μ = _
    rw [f_X7_readSum_w8, nrm_id (z := x3) (by omega) (by omega), if_neg (by show ¬ ((900 : Int) ≤ x3); omega), if_neg (by decide : ¬ nrm 1 = 0), show (2 + 1 : Int) = 3 from rfl, h0, cK_n hk, show nrm 43 = cK 32 by decide, show nrm 45 = cK 33 by decide, if_neg (fun q => n1 ((cK_inj hk k1).mp q)), if_neg (fun q => n2 ((cK_inj hk k2).mp q)), gd_pos (by decide : isB 1)]
  · intro m x3 μ K c x hk h0 x0 x9 ho r μ7 μ10 μ14 e7 e10 e1 e14
    have hj : f_X7_readSum_j43 rC (f_X7_readSum_w8 rC m) 2 d x3 μ = f_X7_readSum_w8 rC m 2 d r (x3 + 1) μ14 := by
      unfold f_X7_readSum_j43
      rw [nm_eq, show (2 + 1 : Int) = 3 from rfl, bn_eq e7, bn_eq e10, e1, gd_pos (isL_k hL), h0, cK_n hk, show nrm 43 = cK 32 by decide]
      unfold f_X7_readSum_j84
      rcases ops ho with ⟨q1, q2, q3⟩ | ⟨q1, q2, q3⟩
      · rw [if_pos ((cK_inj hk k1).mpr q1), gd_pos hL4, ← q3, bn_eq e14]
      · rw [if_neg (fun q => by have := (cK_inj hk k1).mp q; omega), gd_pos hL4, ← q3, bn_eq e14]
    show f_X7_readSum_w8 rC (m + 1) 2 d 1 x3 μ = _
    rw [f_X7_readSum_w8, nrm_id (z := x3) (by omega) (by omega), if_neg (by show ¬ ((900 : Int) ≤ x3); omega), if_neg (by decide : ¬ nrm 1 = 0), show (2 + 1 : Int) = 3 from rfl, h0, cK_n hk, show nrm 43 = cK 32 by decide, show nrm 45 = cK 33 by decide, hj]
    rcases ops ho with ⟨q1, _⟩ | ⟨q1, _⟩
    · rw [if_pos ((cK_inj hk k1).mpr q1)]
    · rw [if_neg (fun q => by have := (cK_inj hk k1).mp q; omega), if_pos ((cK_inj hk k2).mpr q1)]
  · intro m ρ K hk h9 h11 ho
    obtain ⟨n1, n2⟩ := opn ho
    have nK : nrm K = K := nrm_id (by have := hk.1; omega) (by have := hk.2.1; omega)
    have hi : f_X12_is 111 32 ρ = some (0, ρ) := by
      rw [is_eq, h9, nK, if_neg (fun q => n1 q.2)]
    have hi2 : f_X12_is 111 33 ρ = some (0, ρ) := by
      rw [is_eq, h9, nK, if_neg (fun q => n2 q.2)]
    show f_X12_readSum_w5 rR (m + 1) 111 d ρ = _
    rw [f_X12_readSum_w5, bn_eq hi, if_pos (by decide : nrm 0 = 0), bn_eq hi2, if_pos (by decide : nrm 0 = 0)]
  · intro m ρ K c x hk h9 h11 ho ρ1 ρ5 ρ8 e1 e5 e8
    show f_X12_readSum_w5 rR (m + 1) 111 d ρ = f_X12_readSum_w5 rR m 111 d ρ8
    rw [f_X12_readSum_w5]
    unfold f_X12_readSum_j23 f_X12_readSum_j41
    rcases ops ho with ⟨q1, q2, q3⟩ | ⟨q1, q2, q3⟩
    · have hi : f_X12_is 111 32 ρ = some (1, ρ) := by
        rw [is_eq, h9, h11, q1, if_pos ⟨by decide, rfl⟩]
      rw [bn_eq hi, if_neg (by decide : ¬ nrm 1 = 0), h9, q1, if_pos rfl, bn_eq e1, bn_eq e5, ← q2, bn_eq e8]
    · have hi : f_X12_is 111 32 ρ = some (0, ρ) := by
        rw [is_eq, h9, q1, if_neg (fun q => absurd q.2 (by decide))]
      have hi2 : f_X12_is 111 33 ρ = some (1, ρ) := by
        rw [is_eq, h9, h11, q1, if_pos ⟨by decide, rfl⟩]
      rw [bn_eq hi, if_pos (by decide : nrm 0 = 0), bn_eq hi2, if_neg (by decide : ¬ nrm 1 = 0), h9, q1, if_neg (by decide : ¬ nrm 33 = nrm 32), bn_eq e1, bn_eq e5, ← q2, bn_eq e8]
  · intro K c x ho
    rcases ops ho with ⟨q1, q2, q3⟩ | ⟨q1, q2, q3⟩
    · rw [q2, q3]
      exact ⟨by decide, by omega, fun s => by rcases hE.2.2.2.2.2.2.1 with q | q <;> rw [q] <;> rfl⟩
    · rw [q2, q3]
      exact ⟨by decide, by omega, fun s => by rcases hE.2.2.2.2.2.2.1 with q | q <;> rw [q] <;> rfl⟩
