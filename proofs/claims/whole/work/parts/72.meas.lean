/-- The edges of a land, by the lanes that have a weight. -/
def EdG (A w : Int → Int) : Edge → Prop := fun e => ∃ l, 0 ≤ l ∧ l < A 2 ∧ w l ≠ -1 ∧ e.1 = w l ∧ ((e.2.1 = A (11 + l) ∧ e.2.2 = A (20 + l)) ∨ (e.2.1 = A (20 + l) ∧ e.2.2 = A (11 + l)))
def okW (A w : Int → Int) : Prop := ∀ l, 0 ≤ l → l < A 2 → w l = -1 ∨ (1 ≤ w l ∧ w l ≤ 10000)
theorem EdG_ok {μ : Mem} {La : Int} {A w : Int → Int} (h : LR μ La A) (hw : okW A w) : okE (EdG A w) := by
  intro e ⟨l, l0, l1, h1, h2, h3⟩
  obtain ⟨⟨_, _, k7⟩, _, _, _, _, g6, _⟩ := h
  obtain ⟨_, a2, a3, _, b2, b3, _⟩ := g6 l l0 l1
  rcases hw l l0 l1 with q | q
  · exact absurd q h1
  · rcases h3 with ⟨x1, x2⟩ | ⟨x1, x2⟩ <;> omega
theorem EdG_sy {A w : Int → Int} : ∀ v x y, EdG A w (v, x, y) → EdG A w (v, y, x) := by
  intro v x y ⟨l, l0, l1, h1, h2, h3⟩
  refine ⟨l, l0, l1, h1, h2, ?_⟩
  rcases h3 with ⟨x1, x2⟩ | ⟨x1, x2⟩
  · exact .inr ⟨x2, x1⟩
  · exact .inl ⟨x2, x1⟩
theorem runR_app : ∀ (a b : List Edge) (F : Int → Int), runR (a ++ b) F = runR b (runR a F)
  | [], _, _ => rfl
  | e :: a, b, F => runR_app a b (rlx F e)
theorem chg_app : ∀ (a b : List Edge) (F : Int → Int), chg (a ++ b) F = (chg a F || chg b (runR a F))
  | [], _, _ => rfl
  | e :: a, b, F => by
    show (_ || chg (a ++ b) (rlx F e)) = _
    rw [chg_app a b (rlx F e), ← Bool.or_assoc]
    rfl
/-- The edges as the class goes through them. -/
def eC (A w : Int → Int) : Nat → Int → List Edge
  | 0, _ => []
  | d + 1, l => (if w l = -1 then [] else [(w l, A (20 + l), A (11 + l)), (w l, A (11 + l), A (20 + l))]) ++ eC A w d (l + 1)
theorem eC_in {A w : Int → Int} : ∀ (d : Nat) (l : Int), 0 ≤ l → l + d = A 2 → ∀ e ∈ eC A w d l, EdG A w e
  | 0, _, _, _, e, h => by cases h
  | d + 1, l, l0, ld, e, h => by
    unfold eC at h
    rcases List.mem_append.mp h with q | q
    · by_cases z : w l = -1
      · rw [if_pos z] at q; cases q
      · rw [if_neg z] at q
        rcases List.mem_cons.mp q with q | q
        · subst q; exact ⟨l, l0, by omega, z, rfl, .inr ⟨rfl, rfl⟩⟩
        · rw [List.mem_singleton] at q
          subst q; exact ⟨l, l0, by omega, z, rfl, .inl ⟨rfl, rfl⟩⟩
    · exact eC_in d (l + 1) (by omega) (by omega) e q
theorem eC_all {A w : Int → Int} : ∀ (d : Nat) (l k : Int), l ≤ k → k < l + d → w k ≠ -1 → (w k, A (20 + k), A (11 + k)) ∈ eC A w d l ∧ (w k, A (11 + k), A (20 + k)) ∈ eC A w d l
  | 0, l, k, h1, h2, _ => by omega
  | d + 1, l, k, h1, h2, h3 => by
    unfold eC
    by_cases e : k = l
    · subst e
      rw [if_neg h3]
      exact ⟨List.mem_append_left _ (List.mem_cons_self ..), List.mem_append_left _ (List.mem_cons_of_mem _ (List.mem_cons_self ..))⟩
    · obtain ⟨a, b⟩ := eC_all d (l + 1) k (by omega) (by omega) h3
      exact ⟨List.mem_append_right _ a, List.mem_append_right _ b⟩
theorem eC_full {A w : Int → Int} (h0 : 0 ≤ A 2) : ∀ e, EdG A w e → e ∈ eC A w (A 2).toNat 0 := by
  intro ⟨v, x, y⟩ ⟨l, l0, l1, h1, h2, h3⟩
  obtain ⟨a, b⟩ := eC_all (A := A) (w := w) (A 2).toNat 0 l l0 (by omega) h1
  dsimp only at h2 h3
  rcases h3 with ⟨x1, x2⟩ | ⟨x1, x2⟩
  · rw [h2, x1, x2]; exact b
  · rw [h2, x1, x2]; exact a
def xf (v : Int) : Int := if v = -1 then farI else v
def rowOk (μ : Mem) : Prop := ∀ k, 0 ≤ k → k < 7 → μ 100 k = -1 ∨ (0 ≤ μ 100 k ∧ μ 100 k ≤ 70000)
def xF (μ : Mem) : Int → Int := fun k => xf (μ 100 k)
theorem xf_far {v : Int} (h : v = -1 ∨ (0 ≤ v ∧ v ≤ 70000)) : xf v = farI ↔ v = -1 := by
  unfold xf
  by_cases e : v = -1
  · rw [if_pos e]; exact ⟨fun _ => e, fun _ => rfl⟩
  · rw [if_neg e]
    have hf : farI = 268435456 := rfl
    constructor
    · intro q; omega
    · intro q; exact absurd q e
theorem farFrom_eq {k : Int} (μ : Mem) (k0 : 0 ≤ k) (k7 : k < 7) : f_X6_farFrom 98 k μ = some (μ 100 k, μ) := by
  unfold f_X6_farFrom
  rw [nrm_id (z := k) (by omega) (by omega), if_neg (by omega), if_pos (by show k < 7; omega), gd_pos ⟨k0, k7⟩]
  rfl
theorem relax_c {Ed : Edge → Prop} {g a b w : Int} {μ : Mem} (ok : okE Ed) (he : Ed (w, b, a)) (hJ : JF Ed g (xF μ)) (hr : rowOk μ) :
    ∃ μ', f_X6_relax 98 a b w μ = some (0, μ') ∧ xF μ' = rlx (xF μ) (w, b, a) ∧ rowOk μ' ∧ (∀ c i, c ≠ 100 → μ' c i = μ c i) := by
  obtain ⟨o1, o2, o3, o4, o5, o6⟩ := ok _ he
  dsimp only at o1 o2 o3 o4 o5 o6
  have ra := hr a o5 o6
  have rb := hr b o3 o4
  have hf : farI = 268435456 := rfl
  have nf := nfin_in (xF μ)
  have xb : xF μ b ≠ farI → μ 100 b ≤ 60000 := by
    intro q
    have := hJ.2.2.2 b o3 o4 q
    have q2 : μ 100 b ≠ -1 := fun z => q ((xf_far rb).mpr z)
    unfold xF xf at this
    rw [if_neg q2] at this
    unfold xF xf at nf
    omega
  unfold f_X6_relax
  rw [bn_eq (farFrom_eq μ o3 o4), bn_eq (farFrom_eq μ o5 o6), show nrm (-1) = -1 from rfl, nrm_id (z := μ 100 b) (by omega) (by omega), nrm_id (z := μ 100 a) (by omega) (by omega), nrm_id (z := a) (by omega) (by omega), nrm_id (z := μ 100 b + w) (by omega) (by omega)]
  unfold rlx
  dsimp only
  by_cases z : μ 100 b = -1
  · rw [if_pos z]
    refine ⟨μ, rfl, ?_, hr, fun _ _ _ => rfl⟩
    rw [if_neg (fun q => q.1 ((xf_far rb).mpr z))]
  · rw [if_neg z, if_neg (by omega), if_neg (by show ¬ ((7 : Int) ≤ a); omega)]
    have xbn : xF μ b ≠ farI := fun q => z ((xf_far rb).mp q)
    have b6 := xb xbn
    have eb : xF μ b = μ 100 b := if_neg z
    have put : f_X6_relax_j45 98 a w (μ 100 b) μ = some (0, ms μ 100 a (μ 100 b + w)) := by
      unfold f_X6_relax_j45
      rw [nrm_id (z := a) (by omega) (by omega), gd_pos ⟨o5, o6⟩, nm_eq]
      rfl
    have new : xF (ms μ 100 a (μ 100 b + w)) = upF (xF μ) a (xF μ b + w) := by
      funext k
      unfold xF upF
      by_cases e : k = a
      · rw [e, ms_eq, if_pos rfl]
        unfold xf
        rw [if_neg (by omega), if_neg z]
      · rw [ms_ni e, if_neg e]
    have newr : rowOk (ms μ 100 a (μ 100 b + w)) := by
      intro k k0 k7
      by_cases e : k = a
      · rw [e, ms_eq]; omega
      · rw [ms_ni e]; exact hr k k0 k7
    by_cases y : μ 100 a = -1
    · rw [if_pos y, put]
      refine ⟨_, rfl, ?_, newr, fun c i hc => ms_nc hc⟩
      have ea : xF μ a = farI := (xf_far ra).mpr y
      rw [new, if_pos ⟨xbn, by omega⟩]
    · have ea : xF μ a = μ 100 a := if_neg y
      rw [if_neg y]
      by_cases lt : μ 100 a ≤ μ 100 b + w
      · rw [if_pos lt]
        refine ⟨μ, rfl, ?_, hr, fun _ _ _ => rfl⟩
        rw [if_neg (fun q => absurd q.2 (by omega))]
      · rw [if_neg lt, put]
        refine ⟨_, rfl, ?_, newr, fun c i hc => ms_nc hc⟩
        rw [new, if_pos ⟨xbn, by omega⟩]
theorem meas_l {La g r : Int} {A w : Int → Int} {K : Int → Int → Int → Mem → Option (Int × Mem)} (hL : isL La) (hw : okW A w) (g0 : 0 ≤ g) (g7 : g < 7) :
    ∀ (d n : Nat) (l : Int) (μ : Mem), 0 ≤ l → l + d = A 2 → d < n → LR μ La A → (∀ l, 0 ≤ l → l < A 2 → μ 99 l = w l) → JF (EdG A w) g (xF μ) → rowOk μ →
    ∃ μ', f_X6_measure_w37 K n 98 La r l μ = K 98 La (r + 1) μ' ∧ xF μ' = runR (eC A w d l) (xF μ) ∧ rowOk μ' ∧ (∀ c i, c ≠ 100 → μ' c i = μ c i) := by
  have hLo := hL
  unfold isL at hLo
  intro d
  induction d with
  | zero =>
    intro n l μ l0 ld hn hR hwm hJ hr
    obtain ⟨n, rfl⟩ : ∃ q, n = q + 1 := ⟨n - 1, by omega⟩
    obtain ⟨_, ⟨g2, g20, g29⟩, _⟩ := hR
    refine ⟨μ, ?_, rfl, hr, fun _ _ _ => rfl⟩
    rw [f_X6_measure_w37, gd_pos (isL_k hL), g2, nrm_id (z := A 2) (by omega) (by omega), nrm_id (z := l) (by omega) (by omega), if_pos (by omega)]
    rfl
  | succ d ih =>
    intro n l μ l0 ld hn hR hwm hJ hr
    obtain ⟨n, rfl⟩ : ∃ q, n = q + 1 := ⟨n - 1, by omega⟩
    have hR' := hR
    obtain ⟨⟨_, _, k7⟩, ⟨g2, g20, g29⟩, _, _, _, g6, _⟩ := hR'
    obtain ⟨a1, a2, a3, b1, b2, b3, _⟩ := g6 l l0 (by omega)
    have ok := EdG_ok hR hw
    have wl : f_X6_weightOf 98 l μ = some (w l, μ) := by
      unfold f_X6_weightOf
      rw [nrm_id (z := l) (by omega) (by omega), if_neg (by omega), if_pos (by show l < 9; omega), gd_pos (by omega), show (98 + 1 : Int) = 99 from rfl, hwm l l0 (by omega)]
    have wb := hw l l0 (by omega)
    have hu : f_X6_measure_w37 K (n + 1) 98 La r l μ = if w l = -1 then f_X6_measure_w37 K n 98 La r (l + 1) μ else bn (f_X6_relax 98 (μ (La + 1) l) (μ (La + 2) l) (μ 99 l) μ) fun _ μ11 => bn (f_X6_relax 98 (μ11 (La + 2) l) (μ11 (La + 1) l) (μ11 99 l) μ11) fun _ μ17 => f_X6_measure_w37 K n 98 La r (l + 1) μ17 := by
      rw [f_X6_measure_w37, gd_pos (isL_k hL), g2, nrm_id (z := A 2) (by omega) (by omega), nrm_id (z := l) (by omega) (by omega), if_neg (by omega), if_neg (by show ¬ ((9 : Int) ≤ l); omega), bn_eq wl, show nrm (-1) = -1 from rfl, nrm_id (z := w l) (by omega) (by omega)]
      simp only [gd_pos (by omega : 0 ≤ l ∧ l < 9)]
      rfl
    have fin : ∀ μ2, (∀ c i, c ≠ 100 → μ2 c i = μ c i) → JF (EdG A w) g (xF μ2) → rowOk μ2 → ∃ μ', f_X6_measure_w37 K n 98 La r (l + 1) μ2 = K 98 La (r + 1) μ' ∧ xF μ' = runR (eC A w d (l + 1)) (xF μ2) ∧ rowOk μ' ∧ (∀ c i, c ≠ 100 → μ' c i = μ c i) := by
      intro μ2 s j2 r2
      obtain ⟨μ', y1, y2, y3, y4⟩ := ih n (l + 1) μ2 (by omega) (by omega) (by omega) (LR_co hL (fun c i _ _ _ => s c i (by omega)) hR) (fun k k0 k1 => by rw [s 99 k (by decide)]; exact hwm k k0 k1) j2 r2
      exact ⟨μ', y1, y2, y3, fun c i hc => (y4 c i hc).trans (s c i hc)⟩
    unfold eC
    by_cases z : w l = -1
    · rw [if_pos z] at hu ⊢
      rw [hu]
      exact fin μ (fun _ _ _ => rfl) hJ hr
    · rw [if_neg z] at hu ⊢
      have E1 : EdG A w (w l, A (20 + l), A (11 + l)) := ⟨l, l0, by omega, z, rfl, .inr ⟨rfl, rfl⟩⟩
      have E2 : EdG A w (w l, A (11 + l), A (20 + l)) := ⟨l, l0, by omega, z, rfl, .inl ⟨rfl, rfl⟩⟩
      obtain ⟨μ2, p1, p2, p3, p4⟩ := relax_c ok E1 hJ hr
      have hJ2 : JF (EdG A w) g (xF μ2) := by rw [p2]; exact rlx_JF ok g0 g7 E1 hJ
      obtain ⟨μ3, q1, q2, q3, q4⟩ := relax_c ok E2 hJ2 p3
      have hJ3 : JF (EdG A w) g (xF μ3) := by rw [q2]; exact rlx_JF ok g0 g7 E2 hJ2
      rw [a1, b1, hwm l l0 (by omega), bn_eq p1, p4 (La + 2) l (by omega), p4 (La + 1) l (by omega), p4 99 l (by decide), a1, b1, hwm l l0 (by omega), bn_eq q1] at hu
      rw [hu, runR_app]
      show ∃ μ', _ ∧ xF μ' = runR (eC A w d (l + 1)) (rlx (rlx (xF μ) (w l, A (20 + l), A (11 + l))) (w l, A (11 + l), A (20 + l))) ∧ _
      rw [← p2, ← q2]
      exact fin μ3 (fun c i hc => (q4 c i hc).trans (p4 c i hc)) hJ3 q3
theorem meas_r {La g : Int} {A w D : Int → Int} (hL : isL La) (hw : okW A w) (g0 : 0 ≤ g) (g7 : g < 7) (hD : isD (EdG A w) g D) :
    ∀ (d n : Nat) (r : Int) (μ : Mem), 0 ≤ r → r + d = 7 → d < n → LR μ La A → (∀ l, 0 ≤ l → l < A 2 → μ 99 l = w l) → JF (EdG A w) g (xF μ) → rowOk μ → upTo D (xF μ) r →
    ∃ μ', f_X6_measure_w28 n 98 La r μ = some (0, μ') ∧ isD (EdG A w) g (xF μ') ∧ rowOk μ' ∧ (∀ c i, c ≠ 100 → μ' c i = μ c i) := by
  intro d
  induction d with
  | zero =>
    intro n r μ r0 rd hn hR hwm hJ hr hu
    obtain ⟨n, rfl⟩ : ∃ q, n = q + 1 := ⟨n - 1, by omega⟩
    have ok := EdG_ok hR hw
    refine ⟨μ, ?_, isD_cg ok g0 g7 hD (upTo_6 ok g0 g7 hD hJ (by omega) hu), hr, fun _ _ _ => rfl⟩
    rw [f_X6_measure_w28, nrm_id (z := r) (by omega) (by omega), if_pos (by show (7 : Int) ≤ r; omega)]
  | succ d ih =>
    intro n r μ r0 rd hn hR hwm hJ hr hu
    obtain ⟨n, rfl⟩ : ∃ q, n = q + 1 := ⟨n - 1, by omega⟩
    have ok := EdG_ok hR hw
    have h20 := hR.2.1.2.1
    have h29 := hR.2.1.2.2
    obtain ⟨μ2, p1, p2, p3, p4⟩ := meas_l (K := f_X6_measure_w28 n) (r := r) hL hw g0 g7 (A 2).toNat FU 0 μ (by decide) (by omega) (by unfold FU; omega) hR hwm hJ hr
    have e1 := eC_in (A := A) (w := w) (A 2).toNat 0 (by decide) (by omega)
    have e2 := eC_full (A := A) (w := w) h20
    have hLo := hL
    unfold isL at hLo
    obtain ⟨μ3, q1, q2, q3, q4⟩ := ih n (r + 1) μ2 (by omega) (by omega) (by omega) (LR_co hL (fun c i _ _ _ => p4 c i (by omega)) hR) (fun k k0 k1 => by rw [p4 99 k (by decide)]; exact hwm k k0 k1) (by rw [p2]; exact runR_JF ok g0 g7 _ _ e1 hJ) p3 (by rw [p2]; exact upTo_s ok g0 g7 hD hJ e1 e2 hu)
    refine ⟨μ3, ?_, q2, q3, fun c i hc => (q4 c i hc).trans (p4 c i hc)⟩
    rw [f_X6_measure_w28, nrm_id (z := r) (by omega) (by omega), if_neg (by show ¬ ((7 : Int) ≤ r); omega), p1]
    exact q1
theorem fill_iw {c v : Int} {n : Nat} (hk : isA c 1) (hn : aln c = n) (n9 : n ≤ 900) : ∀ (d i m : Nat), i + d = n → d < m → ∀ μ, f_J7_fill_53178_w5 m c v i n μ = some (0, flm μ c i n v) := by
  intro d
  induction d with
  | zero =>
    intro i m h1 h2 μ
    obtain ⟨m, rfl⟩ : ∃ q, m = q + 1 := ⟨m - 1, by omega⟩
    rw [f_J7_fill_53178_w5, nrm_id (z := (n : Int)) (by omega) (by omega), nrm_id (z := (i : Int)) (by omega) (by omega), if_pos (by omega), flm_nil (by omega)]
  | succ d ih =>
    intro i m h1 h2 μ
    obtain ⟨m, rfl⟩ : ∃ q, m = q + 1 := ⟨m - 1, by omega⟩
    rw [f_J7_fill_53178_w5, nrm_id (z := (n : Int)) (by omega) (by omega), nrm_id (z := (i : Int)) (by omega) (by omega), if_neg (by omega), gd_pos ⟨hk, by omega, by rw [hn]; omega⟩, nm_eq]
    have := ih (i + 1) m (by omega) (by omega) (ms μ c i v)
    rw [show ((i + 1 : Nat) : Int) = (i : Int) + 1 by omega, flm_step (by omega)] at this
    exact this
theorem fill_i {c v : Int} {n : Nat} (hk : isA c 1) (hn : aln c = n) (n9 : n ≤ 900) (μ : Mem) : f_J7_fill_53178 c v μ = some (0, flm μ c 0 n v) := by
  unfold f_J7_fill_53178
  rw [gd_pos hk, nm_eq, hn]
  exact fill_iw hk hn n9 n 0 FU (by omega) (by unfold FU; omega) μ
/-- The class's distances to a goal. -/
theorem measure_eq {La g : Int} {A w : Int → Int} {μ : Mem} (hL : isL La) (hw : okW A w) (g0 : 0 ≤ g) (g7 : g < 7) (hR : LR μ La A) (hwm : ∀ l, 0 ≤ l → l < A 2 → μ 99 l = w l) :
    ∃ μ', f_X6_measure 98 La g μ = some (0, μ') ∧ isD (EdG A w) g (xF μ') ∧ rowOk μ' ∧ (∀ c i, c ≠ 100 → μ' c i = μ c i) := by
  have hLo := hL
  unfold isL at hLo
  have ok := EdG_ok hR hw
  have rr : ∀ k, 0 ≤ k → k < 7 → ms (flm μ 100 0 7 (-1)) 100 g 0 100 k = if k = g then 0 else -1 := by
    intro k k0 k7
    by_cases e : k = g
    · rw [e, ms_eq, if_pos rfl]
    · rw [ms_ni e, flm_in k0 k7, if_neg e]
  have rk : rowOk (ms (flm μ 100 0 7 (-1)) 100 g 0) := by
    intro k k0 k7
    rw [rr k k0 k7]
    split <;> omega
  have hJ : JF (EdG A w) g (xF (ms (flm μ 100 0 7 (-1)) 100 g 0)) := by
    refine JF_0 g0 g7 ?_
    intro k k0 k7
    unfold xF
    rw [rr k k0 k7]
    by_cases e : k = g
    · rw [if_pos e, if_pos e]; rfl
    · rw [if_neg e, if_neg e]; rfl
  have hc : ∀ c i, c ≠ 100 → ms (flm μ 100 0 7 (-1)) 100 g 0 c i = μ c i := fun c i h => by rw [ms_nc h, flm_nc h]
  obtain ⟨D, hD⟩ := D_ex ok g0 g7
  obtain ⟨μ2, p1, p2, p3, p4⟩ := meas_r hL hw g0 g7 hD 7 FU 0 _ (by decide) (by decide) (by unfold FU; omega) (LR_co hL (fun c i _ _ _ => hc c i (by omega)) hR) (fun k k0 k1 => by rw [hc 99 k (by decide)]; exact hwm k k0 k1) hJ rk (upTo_0 ok g0 g7 hD hJ)
  refine ⟨μ2, ?_, p2, p3, fun c i h => (p4 c i h).trans (hc c i h)⟩
  unfold f_X6_measure
  rw [show (98 + 2 : Int) = 100 from rfl, bn_eq (fill_i (n := 7) (by decide) (by decide) (by decide) μ), nrm_id (z := g) (by omega) (by omega), if_neg (by omega), if_pos (by show g < 7; omega), gd_pos ⟨g0, g7⟩, nm_eq]
  exact p1
