theorem cK_inj0 : ∀ k : Nat, k < 42 → ∀ l : Nat, l < 42 → (k ≤ 25 ∨ 30 ≤ k) → (l ≤ 25 ∨ 30 ≤ l) → cK (k : Int) = cK (l : Int) → k = l := by decide +kernel
theorem cK_inj {K k : Int} (h : kOk K) (h' : kOk k) : cK K = cK k ↔ K = k := by
  obtain ⟨a1, a2, a3⟩ := h
  obtain ⟨b1, b2, b3⟩ := h'
  constructor
  · intro e
    obtain ⟨x, rfl⟩ := Int.eq_ofNat_of_zero_le a1
    obtain ⟨y, rfl⟩ := Int.eq_ofNat_of_zero_le b1
    have := cK_inj0 x (by omega) y (by omega) (by omega) (by omega) e
    omega
  · intro e; rw [e]
theorem cK_n {K : Int} (h : kOk K) : nrm (cK K) = cK K := by
  have := cK_in h.1 h.2.1
  exact nrm_id (by omega) (by omega)
/-- In the middle of a law. -/
def ES (n : Int) (T : Int → Int) (La w : Int) (μ ρ : Mem) (a K V N : Int) : Prop := PS n T μ ρ a K V ∧ ρ 111 11 = 0 ∧ μ 2 1 = La ∧ isL La ∧ ρ 111 15 = w ∧ μ 2 5 = w ∧ (w = 0 ∨ w = 1) ∧ 0 ≤ N ∧ N ≤ a ∧ ρ 115 199 = N ∧ μ (La + 7) 1 = N ∧ (∀ j, 0 ≤ j → j < N → μ (La + 8) j = phi (ρ 115 (200 + j)))
def Bd (μ ρ : Mem) : Prop := 1 ≤ ρ 111 11 ∧ ρ 111 11 ≤ 4 ∧ μ 2 2 = ρ 111 11 ∧ μ 2 3 = ρ 111 12
def FrE (La : Int) (μ μ' : Mem) : Prop := ∀ c i, c ≠ 3 → ¬ (c = 2 ∧ (i = 2 ∨ i = 3)) → ¬ (c = La + 7 ∧ i = 1) → c ≠ La + 8 → μ' c i = μ c i
def FrS (ρ ρ' : Mem) : Prop := ∀ c i, ¬ (c = 111 ∧ 6 ≤ i ∧ i ≤ 12 ∧ i ≠ 8) → ¬ (c = 115 ∧ 199 ≤ i) → ρ' c i = ρ c i
theorem FrE_rf {La : Int} {μ : Mem} : FrE La μ μ := fun _ _ _ _ _ _ => rfl
theorem FrE_tr {La : Int} {a b c : Mem} (h : FrE La a b) (k : FrE La b c) : FrE La a c := fun x i e1 e2 e3 e4 => (k x i e1 e2 e3 e4).trans (h x i e1 e2 e3 e4)
theorem FrS_rf {ρ : Mem} : FrS ρ ρ := fun _ _ _ _ => rfl
theorem FrS_tr {a b c : Mem} (h : FrS a b) (k : FrS b c) : FrS a c := fun x i e1 e2 => (k x i e1 e2).trans (h x i e1 e2)
theorem FrE_a {La : Int} {μ μ' : Mem} (h : FA μ μ') : FrE La μ μ' := fun c i e1 _ _ _ => h c i (by omega)
theorem FrS_n {ρ ρ' : Mem} (h : FN ρ ρ') : FrS ρ ρ' := fun c i e1 _ => h c i (by omega)
/-- On by a token. -/
theorem ES_step {n La w a K V N : Int} {T : Int → Int} {μ ρ : Mem} (h : ES n T La w μ ρ a K V N) (hK : K ≠ 24) : ∃ μ' ρ' a' K' V', f_X9_advance 3 μ = some (0, μ') ∧ f_X12_next 111 ρ = some (0, ρ') ∧ FrE La μ μ' ∧ FrS ρ ρ' ∧ (∀ i, ρ' 115 i = ρ 115 i) ∧ a + 1 ≤ a' ∧ ES n T La w μ' ρ' a' K' V' N := by
  obtain ⟨h1, h2, h3, h4, h5, h6, h7, h8, h9, h10, h11, h12⟩ := h
  have hLo := h4
  unfold isL at hLo
  obtain ⟨μ', ρ', a', K', V', y1, y2, y3, y4, y5, y6⟩ := step h1 hK
  refine ⟨μ', ρ', a', K', V', y1, y2, FrE_a y3, FrS_n y4, fun i => y4 115 i (by omega), by omega, y6, ?_, ?_, h4, ?_, ?_, h7, h8, by omega, ?_, ?_, ?_⟩
  · rw [y4 111 11 (by decide)]; exact h2
  · rw [y3 2 1 (by decide)]; exact h3
  · rw [y4 111 15 (by decide)]; exact h5
  · rw [y3 2 5 (by decide)]; exact h6
  · rw [y4 115 199 (by decide)]; exact h10
  · rw [y3 (La + 7) 1 (by omega)]; exact h11
  · intro j j0 j1
    rw [y3 (La + 8) j (by omega), y4 115 (200 + j) (by omega)]
    exact h12 j j0 j1
/-- A refusal. -/
theorem ES_bad {n La w a K V N : Int} {T : Int → Int} {μ ρ : Mem} (h : ES n T La w μ ρ a K V N) {x : Int} (x0 : 1 ≤ x) (x4 : x ≤ 4) : ∃ μ' ρ', f_X7_refuse 2 x μ = some (0, μ') ∧ f_X12_fails 111 x ρ = some (0, ρ') ∧ FrE La μ μ' ∧ FrS ρ ρ' ∧ Bd μ' ρ' := by
  obtain ⟨⟨p1, p2, p3, p4, p5, p6, p7, p8, p9, p10⟩, h2, _⟩ := h
  have kc : nrm (cK K) = nrm 1 ↔ K = 25 := by
    rw [cK_n p4]
    exact cK_inj (k := 25) p4 (by unfold kOk; omega)
  have kr : nrm K = nrm 25 ↔ K = 25 := by
    obtain ⟨k1, k2, _⟩ := p4
    rw [nrm_id (z := K) (by omega) (by omega)]
    exact Iff.rfl
  have go : ∀ y, 1 ≤ y → y ≤ 4 → ∃ μ' ρ', f_X7_refuse_j17 2 2 y μ = some (0, μ') ∧ f_X12_fails_j23 111 111 y ρ = some (0, ρ') ∧ FrE La μ μ' ∧ FrS ρ ρ' ∧ Bd μ' ρ' := by
    intro y y0 y4
    refine ⟨ms (ms μ 2 2 y) 2 3 a, ms (ms ρ 111 11 y) 111 12 a, ?_, ?_, ?_, ?_, ?_⟩
    · unfold f_X7_refuse_j17
      rw [gd_pos kk_2, nm_eq, nm_eq, show (2 + 1 : Int) = 3 from rfl, ms_nc (by decide), p6]
    · unfold f_X12_fails_j23
      rw [gd_pos kk_111, nm_eq, nm_eq, ms_ni (by decide), p8]
    · intro c i e1 e2 _ _
      rw [ms_at, if_neg (by omega), ms_at, if_neg (by omega)]
    · intro c i e1 _
      rw [ms_at, if_neg (by omega), ms_at, if_neg (by omega)]
    · unfold Bd
      rw [ms_ni (by decide), ms_eq, ms_eq, ms_ni (by decide), ms_eq, ms_eq]
      exact ⟨y0, y4, rfl, rfl⟩
  unfold f_X7_refuse f_X12_fails
  rw [show (2 + 1 : Int) = 3 from rfl, p5, h2, if_pos (by decide : nrm 0 = 0), p9]
  by_cases z : K = 25
  · rw [if_pos (kc.mpr z), if_pos (kr.mpr z)]
    exact go 1 (by decide) (by decide)
  · rw [if_neg (fun q => z (kc.mp q)), if_neg (fun q => z (kr.mp q))]
    exact go x x0 x4
theorem is_eq {k : Int} {ρ : Mem} : f_X12_is 111 k ρ = some (if nrm (ρ 111 11) = 0 ∧ nrm (ρ 111 9) = nrm k then 1 else 0, ρ) := by
  unfold f_X12_is
  by_cases a : nrm (ρ 111 11) = 0
  · rw [if_pos a]
    by_cases b : nrm (ρ 111 9) = nrm k
    · rw [if_pos b, if_pos ⟨a, b⟩]
    · rw [if_neg b, if_neg (fun q => b q.2)]
  · rw [if_neg a, if_neg (fun q => a q.1)]
theorem is_no {k : Int} {ρ : Mem} (h : 1 ≤ ρ 111 11) (h4 : ρ 111 11 ≤ 4) : f_X12_is 111 k ρ = some (0, ρ) := by
  rw [is_eq, if_neg]
  intro q
  have := q.1
  rw [nrm_id (z := ρ 111 11) (by omega) (by omega)] at this
  omega
theorem ES_is {n La w a K V N k : Int} {T : Int → Int} {μ ρ : Mem} (h : ES n T La w μ ρ a K V N) (hk : kOk k) : f_X12_is 111 k ρ = some (if K = k then 1 else 0, ρ) := by
  obtain ⟨⟨p1, p2, p3, p4, p5, p6, p7, p8, p9, p10⟩, h2, _⟩ := h
  obtain ⟨k1, k2, _⟩ := id p4
  obtain ⟨l1, l2, _⟩ := hk
  rw [is_eq, h2, p9, nrm_id (z := K) (by omega) (by omega), nrm_id (z := k) (by omega) (by omega)]
  by_cases z : K = k
  · rw [if_pos ⟨by decide, z⟩, if_pos z]
  · rw [if_neg (fun q => z q.2), if_neg z]
theorem ES_c {n La w a K V N k : Int} {T : Int → Int} {μ ρ : Mem} (h : ES n T La w μ ρ a K V N) (hk : kOk k) : nrm (μ 3 0) = cK k ↔ K = k := by
  obtain ⟨⟨p1, p2, p3, p4, p5, _⟩, _⟩ := h
  rw [p5, cK_n p4]
  exact cK_inj p4 hk
theorem fails_no {x : Int} {ρ : Mem} (h : 1 ≤ ρ 111 11) (h4 : ρ 111 11 ≤ 4) : f_X12_fails 111 x ρ = some (0, ρ) := by
  unfold f_X12_fails
  rw [nrm_id (z := ρ 111 11) (by omega) (by omega), if_neg (by omega)]
theorem eats_no {k : Int} {ρ : Mem} (h : 1 ≤ ρ 111 11) (h4 : ρ 111 11 ≤ 4) : f_X12_eats 111 k ρ = some (0, ρ) := by
  unfold f_X12_eats
  rw [bn_eq (is_no h h4), if_pos (by decide : nrm 0 = 0)]
theorem codes_no {x : Int} {ρ : Mem} (h : 1 ≤ ρ 111 11) (h4 : ρ 111 11 ≤ 4) : f_X12_codes 111 x ρ = some (0, ρ) := by
  unfold f_X12_codes
  rw [nrm_id (z := ρ 111 11) (by omega) (by omega), if_neg (by omega)]
/-- A step more. -/
theorem ES_code {n La w a K V N c x y : Int} {T : Int → Int} {μ ρ : Mem} (h : ES n T La w μ ρ a K V N) (hN : N < a ∨ (N ≤ a ∧ K ≠ 24)) (hc : x * 1000 + y = phi c) : ∃ μ' ρ', f_X4_addStep (La + 7) x y μ = some (0, μ') ∧ f_X12_codes 111 c ρ = some (0, ρ') ∧ FrE La μ μ' ∧ FrS ρ ρ' ∧ (∀ j, 0 ≤ j → j < N → ρ' 115 (200 + j) = ρ 115 (200 + j)) ∧ ρ' 115 (200 + N) = c ∧
    (N + 1 ≤ a → ES n T La w μ' ρ' a K V (N + 1)) ∧ PS n T μ' ρ' a K V ∧ (∀ a' K' V' μ'' ρ'', a + 1 ≤ a' → PS n T μ'' ρ'' a' K' V' → FA μ' μ'' → FN ρ' ρ'' → ES n T La w μ'' ρ'' a' K' V' (N + 1)) := by
  obtain ⟨h1, h2, h3, h4, h5, h6, h7, h8, h9, h10, h11, h12⟩ := h
  have hLo := h4
  unfold isL at hLo
  obtain ⟨p1, p2, p3, p4, p5, p6, p7, p8, p9, p10⟩ := id h1
  have n9 := p1.2.1
  have aN : N < n := by
    rcases hN with q | ⟨q1, q2⟩
    · omega
    · obtain ⟨d, j, e, e1, e2, _⟩ := p10 q2
      clear p10 h1
      omega
  have sC : ∀ c' i, ¬ (c' = La + 7 ∧ i = 1) → ¬ (c' = La + 8 ∧ i = N) → ms (ms μ (La + 8) N (x * 1000 + y)) (La + 7) 1 (N + 1) c' i = μ c' i := by
    intro c' i e1 e2
    rw [ms_at, if_neg e1, ms_at, if_neg e2]
  have sR : ∀ c' i, ¬ (c' = 115 ∧ i = 199) → ¬ (c' = 115 ∧ i = 200 + N) → ms (ms ρ 115 (200 + N) c) 115 199 (N + 1) c' i = ρ c' i := by
    intro c' i e1 e2
    rw [ms_at, if_neg e1, ms_at, if_neg e2]
  have s3 : ∀ i, ms (ms μ (La + 8) N (x * 1000 + y)) (La + 7) 1 (N + 1) 3 i = μ 3 i := fun i => sC 3 i (by omega) (by omega)
  have s4 : ∀ i, ms (ms μ (La + 8) N (x * 1000 + y)) (La + 7) 1 (N + 1) 4 i = μ 4 i := fun i => sC 4 i (by omega) (by omega)
  have s7 := sR 111 7 (by omega) (by omega)
  have hP : PS n T (ms (ms μ (La + 8) N (x * 1000 + y)) (La + 7) 1 (N + 1)) (ms (ms ρ 115 (200 + N) c) 115 199 (N + 1)) a K V := by
    refine ⟨p1, ⟨by rw [sR 111 8 (by omega) (by omega)]; exact p2.1, fun i i0 i1 => by rw [sR 114 i (by omega) (by omega)]; exact p2.2 i i0 i1⟩, ⟨p3.1, p3.2.1, by rw [sC 2 2 (by omega) (by omega)]; exact p3.2.2.1, by rw [sC 2 3 (by omega) (by omega)]; exact p3.2.2.2⟩, p4, by rw [sC 3 0 (by omega) (by omega)]; exact p5, by rw [sC 3 1 (by omega) (by omega)]; exact p6, fun z => ?_, by rw [sR 111 6 (by omega) (by omega)]; exact p8, by rw [sR 111 9 (by omega) (by omega)]; exact p9, fun z => ?_⟩
    · rw [sC 3 2 (by omega) (by omega), sR 111 10 (by omega) (by omega)]; exact p7 z
    · rw [s7, s3, s3]
      obtain ⟨d, j, e, e1, e2, e3, e4, e5, e6, e7, e8, e9⟩ := p10 z
      exact ⟨d, j, e, e1, e2, e3, e4, e5, e6, e7, e8, LsT_co d _ _ (fun i _ => s4 i) e9⟩
  clear p10 h1
  have new : ∀ a' K' V' (μ'' ρ'' : Mem), N + 1 ≤ a' → PS n T μ'' ρ'' a' K' V' → FA (ms (ms μ (La + 8) N (x * 1000 + y)) (La + 7) 1 (N + 1)) μ'' → FN (ms (ms ρ 115 (200 + N) c) 115 199 (N + 1)) ρ'' → ES n T La w μ'' ρ'' a' K' V' (N + 1) := by
    intro a' K' V' μ'' ρ'' ha hP2 fa fn
    refine ⟨hP2, ?_, ?_, h4, ?_, ?_, h7, by omega, ha, ?_, ?_, ?_⟩
    · rw [fn 111 11 (by decide), sR 111 11 (by omega) (by omega)]; exact h2
    · rw [fa 2 1 (by decide), sC 2 1 (by omega) (by omega)]; exact h3
    · rw [fn 111 15 (by decide), sR 111 15 (by omega) (by omega)]; exact h5
    · rw [fa 2 5 (by decide), sC 2 5 (by omega) (by omega)]; exact h6
    · rw [fn 115 199 (by decide), ms_eq]
    · rw [fa (La + 7) 1 (by omega), ms_eq]
    · intro j j0 j1
      rw [fa (La + 8) j (by omega), fn 115 (200 + j) (by omega)]
      by_cases z : j = N
      · rw [z, ms_nc (by omega), ms_eq, ms_ni (by omega), ms_eq, hc]
      · rw [sC (La + 8) j (by omega) (by omega), sR 115 (200 + j) (by omega) (by omega)]
        exact h12 j j0 (by omega)
  refine ⟨_, _, ?_, ?_, ?_, ?_, ?_, ?_, fun q => new a K V _ _ q hP (fun _ _ _ => rfl) (fun _ _ _ => rfl), hP, fun a' K' V' μ'' ρ'' q1 q2 q3 q4 => new a' K' V' μ'' ρ'' (by omega) q2 q3 q4⟩
  · unfold f_X4_addStep
    rw [h11, nrm_id (z := N) (by omega) (by omega), if_neg (by omega), if_neg (by show ¬ ((900 : Int) ≤ N); omega), gd_pos (by omega), nm_eq, show La + 7 + 1 = La + 8 by omega, ms_nc (by omega), h11, nm_eq]
  · unfold f_X12_codes
    rw [h2, if_pos (by decide : nrm 0 = 0), show (111 + 4 : Int) = 115 from rfl, h10, nrm_id (z := 200 + N) (by omega) (by omega), gd_pos (by omega), nm_eq, ms_ni (by omega), h10, nm_eq]
  · intro c' i _ _ e3 e4
    exact sC c' i e3 (by omega)
  · intro c' i _ e2
    exact sR c' i (by omega) (by omega)
  · intro j j0 hj
    exact sR 115 (200 + j) (by omega) (by omega)
  · rw [ms_ni (by omega), ms_eq]
theorem add_ex {La x y : Int} {μ : Mem} (hL : isL La) : ∃ μ', f_X4_addStep (La + 7) x y μ = some (0, μ') ∧ FrE La μ μ' ∧ (∀ i, μ' 2 i = μ 2 i) := by
  have hLo := hL
  unfold isL at hLo
  unfold f_X4_addStep
  by_cases a : nrm (μ (La + 7) 1) < 0
  · rw [if_pos a]; exact ⟨μ, rfl, FrE_rf, fun _ => rfl⟩
  · rw [if_neg a]
    by_cases b : 900 ≤ nrm (μ (La + 7) 1)
    · rw [if_pos (by show (900 : Int) ≤ _; omega)]; exact ⟨μ, rfl, FrE_rf, fun _ => rfl⟩
    · rw [if_neg (by show ¬ ((900 : Int) ≤ _); omega), gd_pos (by omega), nm_eq, nm_eq]
      refine ⟨_, rfl, ?_, fun i => by rw [ms_nc (by omega), ms_nc (by omega)]⟩
      intro c i _ _ e3 e4
      rw [ms_at, if_neg e3, ms_nc (by omega)]
theorem tyR_add (w : Int) (cd : Int → Int) : ∀ (m k : Nat) (j : Int) (s : List Bool), tyR w cd (m + k) j s = (tyR w cd m j s).bind (tyR w cd k (j + m))
  | 0, k, j, s => by rw [Nat.zero_add, show j + ((0 : Nat) : Int) = j by omega]; rfl
  | m + 1, k, j, s => by
    rw [show m + 1 + k = (m + k) + 1 by omega]
    show (tyS w (cd j) s).bind (tyR w cd (m + k) (j + 1)) = ((tyS w (cd j) s).bind (tyR w cd m (j + 1))).bind (tyR w cd k (j + ((m + 1 : Nat) : Int)))
    rw [show j + ((m + 1 : Nat) : Int) = j + 1 + m by omega]
    cases tyS w (cd j) s with
    | none => rfl
    | some s' => exact tyR_add w cd m k (j + 1) s'
theorem tyR_cg2 {w : Int} {cd cd' : Int → Int} : ∀ (m : Nat) (j : Int) (s : List Bool), (∀ i, j ≤ i → i < j + m → cd i = cd' i) → tyR w cd m j s = tyR w cd' m j s
  | 0, _, _, _ => rfl
  | m + 1, j, s, h => by
    show (tyS w (cd j) s).bind (tyR w cd m (j + 1)) = (tyS w (cd' j) s).bind (tyR w cd' m (j + 1))
    rw [h j (by omega) (by omega)]
    cases tyS w (cd' j) s with
    | none => rfl
    | some s' => exact tyR_cg2 m (j + 1) s' (fun i h1 h2 => h i (by omega) (by omega))
theorem ty_seq {w N N1 N2 : Int} {cd : Int → Int} {s s1 s2 : List Bool} (h1 : N ≤ N1) (h2 : N1 ≤ N2) (x : tyR w cd (N1 - N).toNat N s = some s1) (y : tyR w cd (N2 - N1).toNat N1 s1 = some s2) : tyR w cd (N2 - N).toNat N s = some s2 := by
  rw [show (N2 - N).toNat = (N1 - N).toNat + (N2 - N1).toNat by omega, tyR_add, x, show N + ((N1 - N).toNat : Int) = N1 by omega]
  exact y
theorem ty_one {w N : Int} {cd : Int → Int} {s s1 : List Bool} (h : tyS w (cd N) s = some s1) : tyR w cd (N + 1 - N).toNat N s = some s1 := by
  rw [show (N + 1 - N).toNat = 1 by omega]
  show (tyS w (cd N) s).bind (tyR w cd 0 (N + 1)) = _
  rw [h]
  rfl
