theorem joined_l {set b : Int} {A : Int → Int} {μ ρ : Mem} {K : Int → Int → Int → Int → Mem → Option (Int × Mem)} (j : JR μ 58 ρ) (hA : rowA ρ 0 = A) (s0 : 0 ≤ set) (s1 : set < 512) (b0 : 0 ≤ b) (b1 : b < 2 ^ 7) :
    ∀ (d n : Nat) (l x : Int), 0 ≤ l → l + d = A 2 → d < n → 0 ≤ x → x < 2 ^ 7 → f_X12_areJoined_w14 K n 111 set x b l ρ = K 111 set (cpU A set d l x) (if cpU A set d l x = b then 0 else 1) ρ := by
  obtain ⟨hL, hR, _, ⟨L0, L9⟩, _, ⟨K1, K7⟩, _⟩ := now_is j
  rw [hA] at hR
  have e2 : ρ 112 2 = A 2 := by rw [← hA, rowA_0]
  obtain ⟨_, _, _, _, _, g6, _⟩ := id hR
  intro d
  induction d with
  | zero =>
    intro n l x l0 ld hn x0 x1
    obtain ⟨n, rfl⟩ : ∃ q, n = q + 1 := ⟨n - 1, by omega⟩
    rw [f_X12_areJoined_w14, show (111 + 1 : Int) = 112 from rfl, nrm_id (z := ρ 112 2) (by omega) (by omega), nrm_id (z := l) (by omega) (by omega), if_pos (by omega), nrm_id (z := x) (by omega) (by omega), nrm_id (z := b) (by omega) (by omega)]
    show (if x = b then K 111 set x 0 ρ else K 111 set x 1 ρ) = K 111 set x (if x = b then 0 else 1) ρ
    split <;> rfl
  | succ d ih =>
    intro n l x l0 ld hn x0 x1
    obtain ⟨n, rfl⟩ : ∃ q, n = q + 1 := ⟨n - 1, by omega⟩
    obtain ⟨_, a2, a3, _, b2, b3, _⟩ := g6 l l0 (by omega)
    have eA1 : ρ 112 (11 + l) = A (11 + l) := by rw [← hA, rowA_0]
    have eA2 : ρ 112 (20 + l) = A (20 + l) := by rw [← hA, rowA_0]
    obtain ⟨e1, e2', e3⟩ := ends_tb hR l0 (by omega : l < A 2)
    obtain ⟨j1, j2, j3⟩ := jor_tb2 x0 (by omega : x < 2147483648) e1 (by omega)
    have hc : cpU A set (d + 1) l x = cpU A set d (l + 1) (if tb set l = true ∧ jand x (endsB A l) ≠ 0 then jor x (endsB A l) else x) := rfl
    rw [hc, f_X12_areJoined_w14, show (111 + 1 : Int) = 112 from rfl, nrm_id (z := ρ 112 2) (by omega) (by omega), nrm_id (z := l) (by omega) (by omega), if_neg (by omega), nrm_id (z := set) (by omega) (by omega), bn_eq (isIn_eq ρ s0 (by omega) l0 (by omega)), nrm_id (z := 11 + l) (by omega) (by omega), nrm_id (z := 20 + l) (by omega) (by omega), gd_pos (by omega), gd_pos (by omega), nm_eq, eA1, eA2, show jor (jshl 1 (A (11 + l))) (jshl 1 (A (20 + l))) = endsB A l from rfl, nrm_jand, nm_eq]
    unfold f_X12_areJoined_j77
    by_cases t : tb set l = true
    · rw [if_pos t, if_neg (by decide : ¬ nrm 1 = 0)]
      by_cases z : jand x (endsB A l) = 0
      · rw [if_pos z, if_neg (fun q => q.2 z)]
        exact ih n (l + 1) x (by omega) (by omega) (by omega) x0 x1
      · rw [if_neg z, if_pos ⟨t, z⟩]
        exact ih n (l + 1) _ (by omega) (by omega) (by omega) j1 (j3 7 x1 e2')
    · rw [if_neg t, if_pos (by decide : nrm 0 = 0), if_neg (fun q => t q.1)]
      exact ih n (l + 1) x (by omega) (by omega) (by omega) x0 x1
theorem joined_r {set : Int} {A : Int → Int} {μ ρ : Mem} {t : Nat} (j : JR μ 58 ρ) (hA : rowA ρ 0 = A) (s0 : 0 ≤ set) (s1 : set < 512) (t6 : t ≤ 6) (hf : cmI A set 0 (t + 1) = cmI A set 0 t) (hm : ∀ k < t, cmI A set 0 (k + 1) ≠ cmI A set 0 k) :
    ∀ (d i n : Nat), i + d = t → d + 1 < n → f_X12_areJoined_w4 n 111 set (cmI A set 0 i) 1 ρ = some (if cmI A set 0 t = jshl 1 (A 1) - 1 then 1 else 0, ρ) := by
  obtain ⟨hL, hR, _, ⟨L0, L9⟩, _, ⟨K1, K7⟩, _⟩ := now_is j
  rw [hA] at hR
  have e2 : ρ 112 2 = A 2 := by rw [← hA, rowA_0]
  have e1 : ρ 112 1 = A 1 := by rw [← hA, rowA_0]
  obtain ⟨_, al2, al3, _⟩ := all_is (P := A 1) (by omega) (by omega)
  have hu : ∀ (i n : Nat), f_X12_areJoined_w4 (n + 1) 111 set (cmI A set 0 i) 1 ρ = f_X12_areJoined_w4 n 111 set (cmI A set 0 (i + 1)) (if cmI A set 0 (i + 1) = cmI A set 0 i then 0 else 1) ρ := by
    intro i n
    obtain ⟨x1, x2, _⟩ := cm_ok (set := set) hR (by decide : (0 : Int) ≤ 0) (by decide) i
    rw [f_X12_areJoined_w4, if_neg (by decide : ¬ nrm 1 = 0), joined_l j hA s0 s1 x1 x2 (A 2).toNat FU 0 _ (by decide) (by omega) (by unfold FU; omega) x1 x2]
    rfl
  intro d
  induction d with
  | zero =>
    intro i n hi hn
    obtain ⟨n, rfl⟩ : ∃ q, n = q + 1 := ⟨n - 1, by omega⟩
    obtain ⟨n, rfl⟩ : ∃ q, n = q + 1 := ⟨n - 1, by omega⟩
    obtain rfl : i = t := by omega
    obtain ⟨x1, x2, _⟩ := cm_ok (set := set) hR (by decide : (0 : Int) ≤ 0) (by decide) i
    rw [hu i, if_pos hf, hf, f_X12_areJoined_w4, if_pos (by decide : nrm 0 = 0), show (111 + 1 : Int) = 112 from rfl, e1, nrm_id (z := cmI A set 0 i) (by omega) (by omega), nrm_id (z := jshl 1 (A 1) - 1) (by omega) (by omega)]
    split <;> rfl
  | succ d ih =>
    intro i n hi hn
    obtain ⟨n, rfl⟩ : ∃ q, n = q + 1 := ⟨n - 1, by omega⟩
    rw [hu i, if_neg (hm i (by omega))]
    exact ih (i + 1) n (by omega) (by omega)
theorem areJoined_eq {set : Int} {μ ρ : Mem} (j : JR μ 58 ρ) (s0 : 0 ≤ set) (s1 : set < 512) : ∃ s, f_X12_areJoined 111 set ρ = some (if s = jshl 1 (ρ 112 1) - 1 then 1 else 0, ρ) ∧ isCm (rowA ρ 0) set 0 s := by
  obtain ⟨hL, hR, _⟩ := now_is j
  obtain ⟨t, t1, t2, t3⟩ := cm_fix (set := set) hR (by decide : (0 : Int) ≤ 0) (by decide)
  refine ⟨_, ?_, cm_is hR (by decide) (by decide) t2⟩
  have := joined_r j rfl s0 s1 t1 t2 t3 t 0 FU (by omega) (by unfold FU; omega)
  rw [rowA_0] at this
  exact this
/-- The weight of a set of lanes; none. -/
def waM (w : Int → Int) (set : Int) : Nat → Int → Int → Int
  | 0, _, s => s
  | d + 1, l, s => if tb set l = true then (if w l = -1 then -1 else waM w set d (l + 1) (s + w l)) else waM w set d (l + 1) s
def caM (w : Int → Int) (set : Int) : Nat → Int → Int → Int
  | 0, _, s => s
  | d + 1, l, s => caM w set d (l + 1) (if tb set l = true then (if s = farI ∨ w l = -1 then farI else s + w l) else s)
theorem caM_far {w : Int → Int} {set : Int} : ∀ (d : Nat) (l : Int), caM w set d l farI = farI
  | 0, _ => rfl
  | d + 1, l => by
    unfold caM
    by_cases t : tb set l = true
    · rw [if_pos t, if_pos (.inl rfl)]; exact caM_far d (l + 1)
    · rw [if_neg t]; exact caM_far d (l + 1)
theorem wca {A : Int → Int} {set : Int} (fo : fillOk A) (L9 : A 2 ≤ 9) : ∀ (d : Nat) (l s : Int), 0 ≤ l → l + d = A 2 → 0 ≤ s → s % 16 ≤ l → s ≤ 97 * l →
    (waM (wK A) set d l s = -1 ∧ caM (wC A) set d l (cvM s) = farI) ∨ (0 ≤ waM (wK A) set d l s ∧ caM (wC A) set d l (cvM s) = cvM (waM (wK A) set d l s) ∧ waM (wK A) set d l s % 16 ≤ 9 ∧ waM (wK A) set d l s ≤ 873)
  | 0, l, s, l0, ld, s0, sl, sb => .inr ⟨s0, rfl, by show s % 16 ≤ 9; omega, by show s ≤ 873; omega⟩
  | d + 1, l, s, l0, ld, s0, sl, sb => by
    have hf : farI = 268435456 := rfl
    unfold waM caM
    by_cases t : tb set l = true
    · rw [if_pos t, if_pos t]
      rcases fo l l0 (by omega) with e | e
      · have z1 : wK A l = -1 := by unfold wK; rw [if_pos e]
        have z2 : wC A l = -1 := by unfold wC; rw [if_pos e]
        rw [if_pos z1, if_pos (.inr z2)]
        exact .inl ⟨rfl, caM_far d (l + 1)⟩
      · have z1 : wK A l = fillM A l * 16 + 1 := by unfold wK; rw [if_neg (by omega)]
        have z2 : wC A l = 1000 * fillM A l + 1 := by unfold wC; rw [if_neg (by omega)]
        have cb : cvM s ≤ 100000 ∧ 0 ≤ cvM s := by unfold cvM; omega
        rw [if_neg (by omega), if_neg (by omega), z1, z2, ← cv_add (by omega)]
        exact wca fo L9 d (l + 1) (s + (fillM A l * 16 + 1)) (by omega) (by omega) (by omega) (by omega) (by omega)
    · rw [if_neg t, if_neg t]
      exact wca fo L9 d (l + 1) s (by omega) (by omega) s0 (by omega) (by omega)
theorem weightAll_w {La set : Int} {A w : Int → Int} {μ : Mem} (hL : isL La) (hR : LR μ La A) (hw : okW A w) (hwm : ∀ l, 0 ≤ l → l < A 2 → μ 99 l = w l) (s0 : 0 ≤ set) (s1 : set < 512) :
    ∀ (d n : Nat) (l s : Int), 0 ≤ l → l + d = A 2 → d < n → f_X6_weightOfAll_w5 n 98 La set s l μ = some (waM w set d l s, μ) := by
  obtain ⟨_, ⟨g2, g20, g29⟩, _⟩ := id hR
  intro d
  induction d with
  | zero =>
    intro n l s l0 ld hn
    obtain ⟨n, rfl⟩ : ∃ q, n = q + 1 := ⟨n - 1, by omega⟩
    rw [f_X6_weightOfAll_w5, gd_pos (isL_k hL), g2, nrm_id (z := A 2) (by omega) (by omega), nrm_id (z := l) (by omega) (by omega), if_pos (by omega)]
    rfl
  | succ d ih =>
    intro n l s l0 ld hn
    obtain ⟨n, rfl⟩ : ∃ q, n = q + 1 := ⟨n - 1, by omega⟩
    have wl := hw l l0 (by omega)
    unfold waM
    rw [f_X6_weightOfAll_w5, gd_pos (isL_k hL), g2, nrm_id (z := A 2) (by omega) (by omega), nrm_id (z := l) (by omega) (by omega), if_neg (by omega), jbit s0 (by omega) l0 (by omega), bn_eq (weightOf_eq μ l0 (by omega)), hwm l l0 (by omega), nrm_id (z := w l) (by omega) (by omega), show nrm (-1) = -1 from rfl, nm_eq]
    unfold f_X6_weightOfAll_j44
    by_cases t : tb set l = true
    · rw [if_pos t, if_pos t, if_neg (by decide : ¬ nrm 1 = 0)]
      by_cases z : w l = -1
      · rw [if_pos z, if_pos z]
      · rw [if_neg z, if_neg z]
        exact ih n (l + 1) _ (by omega) (by omega) (by omega)
    · rw [if_neg t, if_neg t, if_pos (by decide : nrm 0 = 0)]
      exact ih n (l + 1) s (by omega) (by omega) (by omega)
theorem weightAll_eq {La set : Int} {A w : Int → Int} {μ : Mem} (hL : isL La) (hR : LR μ La A) (hw : okW A w) (hwm : ∀ l, 0 ≤ l → l < A 2 → μ 99 l = w l) (s0 : 0 ≤ set) (s1 : set < 512) : f_X6_weightOfAll 98 La set μ = some (waM w set (A 2).toNat 0 0, μ) := by
  have h2 := hR.2.1
  exact weightAll_w hL hR hw hwm s0 s1 (A 2).toNat FU 0 0 (by decide) (by omega) (by unfold FU; omega)
theorem its_l {set wh best least : Int} {A : Int → Int} {μ : Mem} {K : Int → Int → Int → Int → Int → Mem → Option (Int × Mem)} (s0 : 0 ≤ set) (s1 : set < 512) (l0' : 0 ≤ least) (l1' : least ≤ farI) :
    ∀ (d n : Nat) (l x : Int) (ρ : Mem), rowA ρ 0 = A → 0 ≤ l → l + d = A 2 → d < n → JR μ 58 ρ → (x = farI ∨ (0 ≤ x ∧ x ≤ 10000 * l)) →
    ∃ ρ', f_X12_joins_w46 K n 111 wh best least set x l ρ = (if least ≤ caM (wC A) set d l x then K 111 wh best least (set + 1) ρ' else bn (f_X12_areJoined 111 set ρ') fun r4 μ3 => if nrm r4 = 0 then K 111 wh best least (set + 1) μ3 else K 111 wh set (caM (wC A) set d l x) (set + 1) μ3) ∧ ScW ρ ρ' := by
  have hf : farI = 268435456 := rfl
  intro d
  induction d with
  | zero =>
    intro n l x ρ hA l0 ld hn j hx
    obtain ⟨n, rfl⟩ : ∃ q, n = q + 1 := ⟨n - 1, by omega⟩
    obtain ⟨_, _, _, ⟨L0, L9⟩, _⟩ := now_is j
    have e2 : ρ 112 2 = A 2 := by rw [← hA, rowA_0]
    refine ⟨ρ, ?_, ScW_rf⟩
    rw [f_X12_joins_w46, show (111 + 1 : Int) = 112 from rfl, nrm_id (z := ρ 112 2) (by omega) (by omega), nrm_id (z := l) (by omega) (by omega), if_pos (by omega), nrm_id (z := least) (by omega) (by omega), nrm_id (z := x) (by omega) (by omega)]
    rfl
  | succ d ih =>
    intro n l x ρ hA l0 ld hn j hx
    obtain ⟨n, rfl⟩ : ∃ q, n = q + 1 := ⟨n - 1, by omega⟩
    obtain ⟨_, _, _, ⟨L0, L9⟩, _⟩ := now_is j
    have e2 : ρ 112 2 = A 2 := by rw [← hA, rowA_0]
    have wi := wC_ok (fillOk_of j) l l0 (by rw [hA]; omega)
    rw [hA] at wi
    have hc : caM (wC A) set (d + 1) l x = caM (wC A) set d (l + 1) (if tb set l = true then (if x = farI ∨ wC A l = -1 then farI else x + wC A l) else x) := rfl
    rw [hc, f_X12_joins_w46, show (111 + 1 : Int) = 112 from rfl, nrm_id (z := ρ 112 2) (by omega) (by omega), nrm_id (z := l) (by omega) (by omega), if_neg (by omega), nrm_id (z := set) (by omega) (by omega), bn_eq (isIn_eq ρ s0 (by omega) l0 (by omega))]
    unfold f_X12_joins_j88 f_X12_joins_j103 f_X12_joins_j105
    by_cases t : tb set l = true
    · rw [if_pos t, if_pos t, if_neg (by decide : ¬ nrm 1 = 0), nrm_id (z := x) (by omega) (by omega), show nrm 268435456 = farI from rfl]
      by_cases z : x = farI
      · rw [if_pos z, if_pos (.inl z)]
        exact ih n (l + 1) farI ρ hA (by omega) (by omega) (by omega) j (.inl rfl)
      · rw [if_neg z]
        obtain ⟨ρ2, p1, p2⟩ := costOf_eq j l0 (by omega : l < ρ 112 2)
        obtain ⟨j2, _⟩ := JR_sa (SaC_rfl μ) (ScW_sa p2) j
        obtain ⟨ρ3, q1, q2⟩ := costOf_eq j2 l0 (by rw [p2 112 2 (by decide) (by decide)]; omega)
        rw [rowA_co (ScW_sa p2), hA] at q1
        rw [hA] at p1
        have hA2 : rowA ρ2 0 = A := by rw [rowA_co (ScW_sa p2)]; exact hA
        have s3 : ScW ρ ρ3 := ScW_tr p2 q2
        have hA3 : rowA ρ3 0 = A := by rw [rowA_co (ScW_sa s3)]; exact hA
        obtain ⟨j3, _⟩ := JR_sa (SaC_rfl μ) (ScW_sa s3) j
        rw [bn_eq p1, bn_eq q1]
        by_cases y : wC A l = -1
        · rw [if_pos y, if_pos (by decide : nrm farI = farI), if_pos (.inr y)]
          obtain ⟨ρ', y1, y2⟩ := ih n (l + 1) farI ρ2 hA2 (by omega) (by omega) (by omega) j2 (.inl rfl)
          exact ⟨ρ', y1, ScW_tr p2 y2⟩
        · rw [if_neg y, if_neg (by rw [nrm_id (z := wC A l) (by omega) (by omega)]; omega), if_neg (show ¬ (x = farI ∨ wC A l = -1) from fun q => q.elim z y)]
          obtain ⟨ρ', y1, y2⟩ := ih n (l + 1) (x + wC A l) ρ3 hA3 (by omega) (by omega) (by omega) j3 (.inr (by omega))
          exact ⟨ρ', y1, ScW_tr s3 y2⟩
    · rw [if_neg t, if_neg t, if_pos (by decide : nrm 0 = 0)]
      exact ih n (l + 1) x ρ hA (by omega) (by omega) (by omega) j (by omega)
theorem cv_lt {x y : Int} : cvM x < cvM y ↔ x < y := by
  unfold cvM
  omega
theorem joins_w {wh : Int} {μ : Mem} {A : Int → Int} (L0 : 0 ≤ A 2) (L9 : A 2 ≤ 9) (K1 : 1 ≤ A 1) (K7 : A 1 ≤ 7) (fo : fillOk A) (hL : isL (μ 58 0)) (hR : LR μ (μ 58 0) A) (hwm : ∀ l, 0 ≤ l → l < A 2 → μ 99 l = wK A l) (hwh : nrm wh = wh) :
    ∀ (r n m : Nat) (s lc lw br lr : Int) (ρ : Mem), rowA ρ 0 = A → 0 ≤ s → s + r = jshl 1 (A 2) → r < n → r < m → JR μ 58 ρ →
      ((lc = -1 ∧ lw = -1 ∧ br = -1 ∧ lr = farI) ∨ (0 ≤ lc ∧ lc < 512 ∧ br = lc ∧ lw = waM (wK A) lc (A 2).toNat 0 0 ∧ 0 ≤ lw ∧ lw ≤ 873 ∧ lw % 16 ≤ 9 ∧ lr = cvM lw)) →
    ∃ v ρ', f_X6_leastJoining_w17 n 98 (μ 58 0) (jshl 1 (A 1) - 1) lc lw s μ = some (v, μ) ∧ f_X12_joins_w27 m 111 wh br lr s ρ = some (if v = -1 then v else if wh = 1 then v else waM (wK A) v (A 2).toNat 0 0 / 16, ρ') ∧ SaR ρ ρ' ∧ (v = -1 ∨ (0 ≤ v ∧ v < 512 ∧ 0 ≤ waM (wK A) v (A 2).toNat 0 0 ∧ waM (wK A) v (A 2).toNat 0 0 ≤ 873)) := by
  have hf : farI = 268435456 := rfl
  have hJL := jshl_L L0 L9
  have g2 := hR.2.1.1
  obtain ⟨_, al2, al3, _⟩ := all_is (P := A 1) (by omega) (by omega)
  intro r
  induction r with
  | zero =>
    intro n m s lc lw br lr ρ hA s0 sr hn hm j inv
    obtain ⟨n, rfl⟩ : ∃ q, n = q + 1 := ⟨n - 1, by omega⟩
    obtain ⟨m, rfl⟩ : ∃ q, m = q + 1 := ⟨m - 1, by omega⟩
    have e2 : ρ 112 2 = A 2 := by rw [← hA, rowA_0]
    have hu : f_X6_leastJoining_w17 (n + 1) 98 (μ 58 0) (jshl 1 (A 1) - 1) lc lw s μ = some (lc, μ) := by
      rw [f_X6_leastJoining_w17, gd_pos (isL_k hL), g2, nrm_id (z := jshl 1 (A 2)) (by omega) (by omega), nrm_id (z := s) (by omega) (by omega), if_pos (by omega)]
    have hw : f_X12_joins_w27 (m + 1) 111 wh br lr s ρ = if br = -1 then some (br, ρ) else if wh = 1 then some (br, ρ) else some (jdiv lr 1000, ρ) := by
      rw [f_X12_joins_w27, show (111 + 1 : Int) = 112 from rfl, e2, nrm_id (z := jshl 1 (A 2)) (by omega) (by omega), nrm_id (z := s) (by omega) (by omega), if_pos (by omega), nrm_id (z := br) (by omega) (by omega), show nrm (-1) = -1 from rfl, hwh, show nrm 1 = 1 from rfl]
    refine ⟨lc, ρ, hu, ?_, SaR_rfl ρ, ?_⟩
    · rw [hw]
      rcases inv with ⟨i1, i2, i3, i4⟩ | ⟨i1, i2, i3, i4, i5, i6, i7, i8⟩
      · rw [if_pos i3, if_pos i1, i1, i3]
      · rw [if_neg (by omega : ¬ br = -1), if_neg (by omega : ¬ lc = -1), i3]
        by_cases y : wh = 1
        · rw [if_pos y, if_pos y]
        · have cb : 0 ≤ cvM lw ∧ cvM lw ≤ 100000 := by unfold cvM; omega
          rw [if_neg y, if_neg y, i8, jdiv_nn cb.1 (by omega) (by decide) (by decide), ← i4]
          congr 2
          unfold cvM
          omega
    · rcases inv with ⟨i1, _⟩ | ⟨i1, i2, i3, i4, i5, i6, i7, i8⟩
      · exact .inl i1
      · exact .inr ⟨i1, i2, by omega, by omega⟩
  | succ r ih =>
    intro n m s lc lw br lr ρ hA s0 sr hn hm j inv
    obtain ⟨n, rfl⟩ : ∃ q, n = q + 1 := ⟨n - 1, by omega⟩
    obtain ⟨m, rfl⟩ : ∃ q, m = q + 1 := ⟨m - 1, by omega⟩
    have e2 : ρ 112 2 = A 2 := by rw [← hA, rowA_0]
    have e1 : ρ 112 1 = A 1 := by rw [← hA, rowA_0]
    have wc := wca (set := s) fo L9 (A 2).toNat 0 0 (by decide) (by omega) (by decide) (by decide) (by decide)
    rw [show cvM 0 = 0 from rfl] at wc
    have wa := weightAll_eq hL hR (wK_ok fo) hwm s0 (by omega : s < 512)
    obtain ⟨ρ2, p1, p2⟩ := its_l (K := f_X12_joins_w27 m) (wh := wh) (best := br) (least := lr) (μ := μ) s0 (by omega : s < 512) (by rcases inv with h | h <;> (try unfold cvM at h) <;> omega) (by rcases inv with h | h <;> (try unfold cvM at h) <;> omega) (A 2).toNat FU 0 0 ρ hA (by decide) (by omega) (by unfold FU; omega) j (.inr (by omega))
    obtain ⟨j2, _⟩ := JR_sa (SaC_rfl μ) (ScW_sa p2) j
    have hA2 : rowA ρ2 0 = A := by rw [rowA_co (ScW_sa p2)]; exact hA
    obtain ⟨sr', q1, q2⟩ := areJoined_eq j2 s0 (by omega : s < 512)
    rw [hA2] at q2
    rw [p2 112 1 (by decide) (by decide), e1] at q1
    obtain ⟨sc, c1, c2⟩ := comingFrom_eq hR s0 (by omega : s < 512) (by decide : (0 : Int) ≤ 0) (by decide)
    have esc : sc = sr' := isCm_uni (by decide) c2 q2
    subst esc
    have hwU : f_X12_joins_w27 (m + 1) 111 wh br lr s ρ = if lr ≤ caM (wC A) s (A 2).toNat 0 0 then f_X12_joins_w27 m 111 wh br lr (s + 1) ρ2 else if sc = jshl 1 (A 1) - 1 then f_X12_joins_w27 m 111 wh s (caM (wC A) s (A 2).toNat 0 0) (s + 1) ρ2 else f_X12_joins_w27 m 111 wh br lr (s + 1) ρ2 := by
      rw [f_X12_joins_w27, show (111 + 1 : Int) = 112 from rfl, e2, nrm_id (z := jshl 1 (A 2)) (by omega) (by omega), nrm_id (z := s) (by omega) (by omega), if_neg (by omega), p1, bn_eq q1]
      by_cases x : lr ≤ caM (wC A) s (A 2).toNat 0 0
      · rw [if_pos x, if_pos x]
      · rw [if_neg x, if_neg x]
        by_cases y : sc = jshl 1 (A 1) - 1
        · rw [if_pos y, if_neg (by decide : ¬ nrm 1 = 0), if_pos y]
        · rw [if_neg y, if_pos (by decide : nrm 0 = 0), if_neg y]
    have j61 : ∀ sm, f_X6_leastJoining_j61 (f_X6_leastJoining_w17 n) 98 (μ 58 0) (jshl 1 (A 1) - 1) lc lw s sm 1 μ = if sc = jshl 1 (A 1) - 1 then f_X6_leastJoining_w17 n 98 (μ 58 0) (jshl 1 (A 1) - 1) s sm (s + 1) μ else f_X6_leastJoining_w17 n 98 (μ 58 0) (jshl 1 (A 1) - 1) lc lw (s + 1) μ := by
      intro sm
      have := c2.1
      have := c2.2.1
      unfold f_X6_leastJoining_j61
      rw [if_neg (by decide : ¬ nrm 1 = 0), gd_pos (isL_k hL), bn_eq c1, nrm_id (z := sc) (by omega) (by omega), nrm_id (z := jshl 1 (A 1) - 1) (by omega) (by omega)]
      rfl
    have hlw : nrm lw = lw := by
      rcases inv with h | h
      · rw [h.2.1]; rfl
      · exact nrm_id (by omega) (by omega)
    have hsm : nrm (waM (wK A) s (A 2).toNat 0 0) = waM (wK A) s (A 2).toNat 0 0 := by
      rcases wc with h | h
      · rw [h.1]; rfl
      · exact nrm_id (by omega) (by omega)
    have hcU : f_X6_leastJoining_w17 (n + 1) 98 (μ 58 0) (jshl 1 (A 1) - 1) lc lw s μ = if waM (wK A) s (A 2).toNat 0 0 = -1 then f_X6_leastJoining_w17 n 98 (μ 58 0) (jshl 1 (A 1) - 1) lc lw (s + 1) μ else if lw = -1 then f_X6_leastJoining_j61 (f_X6_leastJoining_w17 n) 98 (μ 58 0) (jshl 1 (A 1) - 1) lc lw s (waM (wK A) s (A 2).toNat 0 0) 1 μ else if lw ≤ waM (wK A) s (A 2).toNat 0 0 then f_X6_leastJoining_w17 n 98 (μ 58 0) (jshl 1 (A 1) - 1) lc lw (s + 1) μ else f_X6_leastJoining_j61 (f_X6_leastJoining_w17 n) 98 (μ 58 0) (jshl 1 (A 1) - 1) lc lw s (waM (wK A) s (A 2).toNat 0 0) 1 μ := by
      rw [f_X6_leastJoining_w17, gd_pos (isL_k hL), g2, nrm_id (z := jshl 1 (A 2)) (by omega) (by omega), nrm_id (z := s) (by omega) (by omega), if_neg (by omega), bn_eq wa, hsm, hlw, show nrm (-1) = -1 from rfl]
      rfl
    have finish : ∀ lc' lw' br' lr' , ((lc' = -1 ∧ lw' = -1 ∧ br' = -1 ∧ lr' = farI) ∨ (0 ≤ lc' ∧ lc' < 512 ∧ br' = lc' ∧ lw' = waM (wK A) lc' (A 2).toNat 0 0 ∧ 0 ≤ lw' ∧ lw' ≤ 873 ∧ lw' % 16 ≤ 9 ∧ lr' = cvM lw')) → f_X6_leastJoining_w17 (n + 1) 98 (μ 58 0) (jshl 1 (A 1) - 1) lc lw s μ = f_X6_leastJoining_w17 n 98 (μ 58 0) (jshl 1 (A 1) - 1) lc' lw' (s + 1) μ → f_X12_joins_w27 (m + 1) 111 wh br lr s ρ = f_X12_joins_w27 m 111 wh br' lr' (s + 1) ρ2 →
        ∃ v ρ', f_X6_leastJoining_w17 (n + 1) 98 (μ 58 0) (jshl 1 (A 1) - 1) lc lw s μ = some (v, μ) ∧ f_X12_joins_w27 (m + 1) 111 wh br lr s ρ = some (if v = -1 then v else if wh = 1 then v else waM (wK A) v (A 2).toNat 0 0 / 16, ρ') ∧ SaR ρ ρ' ∧ (v = -1 ∨ (0 ≤ v ∧ v < 512 ∧ 0 ≤ waM (wK A) v (A 2).toNat 0 0 ∧ waM (wK A) v (A 2).toNat 0 0 ≤ 873)) := by
      intro lc' lw' br' lr' x1 x2 x3
      obtain ⟨v, ρ', y1, y2, y3, y4⟩ := ih n m (s + 1) lc' lw' br' lr' ρ2 hA2 (by omega) (by omega) (by omega) (by omega) j2 x1
      exact ⟨v, ρ', by rw [x2]; exact y1, by rw [x3]; exact y2, SaR_tr (ScW_sa p2) y3, y4⟩
    rcases wc with ⟨w1, w2⟩ | ⟨w1, w2, w3, w4⟩
    · rw [if_pos w1] at hcU
      rw [w2, if_pos (by rcases inv with h | h <;> (try unfold cvM at h) <;> omega)] at hwU
      exact finish lc lw br lr inv hcU hwU
    · rw [if_neg (by omega)] at hcU
      have better : f_X6_leastJoining_w17 (n + 1) 98 (μ 58 0) (jshl 1 (A 1) - 1) lc lw s μ = f_X6_leastJoining_j61 (f_X6_leastJoining_w17 n) 98 (μ 58 0) (jshl 1 (A 1) - 1) lc lw s (waM (wK A) s (A 2).toNat 0 0) 1 μ → ¬ lr ≤ caM (wC A) s (A 2).toNat 0 0 →
          ∃ v ρ', f_X6_leastJoining_w17 (n + 1) 98 (μ 58 0) (jshl 1 (A 1) - 1) lc lw s μ = some (v, μ) ∧ f_X12_joins_w27 (m + 1) 111 wh br lr s ρ = some (if v = -1 then v else if wh = 1 then v else waM (wK A) v (A 2).toNat 0 0 / 16, ρ') ∧ SaR ρ ρ' ∧ (v = -1 ∨ (0 ≤ v ∧ v < 512 ∧ 0 ≤ waM (wK A) v (A 2).toNat 0 0 ∧ waM (wK A) v (A 2).toNat 0 0 ≤ 873)) := by
        intro x1 x2
        rw [j61] at x1
        rw [if_neg x2] at hwU
        by_cases y : sc = jshl 1 (A 1) - 1
        · rw [if_pos y] at x1 hwU
          exact finish s _ s _ (.inr ⟨s0, by omega, rfl, rfl, w1, w4, w3, w2⟩) x1 hwU
        · rw [if_neg y] at x1 hwU
          exact finish lc lw br lr inv x1 hwU
      have inv' := inv
      rcases inv' with ⟨i1, i2, i3, i4⟩ | ⟨i1, i2, i3, i4, i5, i6, i7, i8⟩
      · rw [if_pos i2] at hcU
        refine better hcU ?_
        rw [w2, i4]
        unfold cvM
        omega
      · rw [if_neg (by omega)] at hcU
        by_cases lt : lw ≤ waM (wK A) s (A 2).toNat 0 0
        · rw [if_pos lt] at hcU
          rw [if_pos (by rw [w2, i8]; exact cv_mono lt)] at hwU
          exact finish lc lw br lr inv hcU hwU
        · rw [if_neg lt] at hcU
          refine better hcU ?_
          rw [w2, i8]
          have := cv_lt (x := waM (wK A) s (A 2).toNat 0 0) (y := lw)
          omega
theorem op_joins (a : Int) (ha : nrm a = a) : Op2 (f_X11_joins 0 a) (f_X12_joins 111 a) := by
  intro μ ρ h
  have h' := RR_co (SaC_rfl μ) (SaR_thrown ρ 0) h
  generalize hρ : ms ρ 111 0 0 = ρ1 at h'
  have j : JR μ 58 ρ1 := h'.2.2.1
  obtain ⟨hL, hR, _, ⟨L0, L9⟩, _, ⟨K1, K7⟩, hl, ⟨c1, c2, c3⟩, _⟩ := now_is j
  unfold f_X11_joins f_X12_joins
  rw [nm_eq, hρ, show (0 + 58 : Int) = 58 from rfl, show (0 + 98 : Int) = 98 from rfl, bn_within ha rfl rfl, ha, show nrm 1 = 1 from rfl]
  by_cases g : 0 ≤ a ∧ a ≤ 1
  · rw [if_neg (by omega : ¬ a < 0), if_pos g.2, if_pos g, if_neg (by decide : ¬ nrm 1 = 0)]
    obtain ⟨μ2, p1, p2, p3⟩ := weighFillings_eq j
    obtain ⟨j2, j3⟩ := JR_sa p2 (SaR_rfl ρ1) j
    obtain ⟨hL2, hR2, _⟩ := now_is j2
    have fo := fillOk_of j
    have hJL := jshl_L L0 L9
    obtain ⟨v, ρ2, v1, v2, v3, v4⟩ := joins_w (wh := a) (μ := μ2) (A := rowA ρ1 0) (by rw [rowA_0]; exact L0) (by rw [rowA_0]; exact L9) (by rw [rowA_0]; exact K1) (by rw [rowA_0]; exact K7) fo hL2 hR2 (fun l l0 l1 => by rw [rowA_0] at l1; exact p3 l l0 l1) ha (jshl 1 (ρ1 112 2)).toNat FU FU 0 (-1) (-1) (-1) farI ρ1 rfl (by decide) (by rw [rowA_0]; omega) (by unfold FU; omega) (by unfold FU; omega) j2 (.inl ⟨rfl, rfl, rfl, rfl⟩)
    have hlj : f_X6_leastJoining 98 (μ2 58 0) μ2 = some (v, μ2) := by
      unfold f_X6_leastJoining
      rw [gd_pos (isL_k hL2), nm_eq, hR2.1.1]
      exact v1
    have hRR := RR_co p2 v3 h'
    rw [bn_eq p1, bn_eq hlj, v2, nrm_id (z := v) (by omega) (by omega), show nrm (-1) = -1 from rfl]
    by_cases x : v = -1
    · rw [if_pos x, if_pos x, x]; simp only [wp_some]; exact ⟨trivial, hRR⟩
    · rw [if_neg x, if_neg x]
      by_cases y : a = 0
      · rw [if_pos y, if_neg (by omega : ¬ a = 1), bn_eq (weightAll_eq hL2 hR2 (wK_ok fo) (fun l l0 l1 => by rw [rowA_0] at l1; exact p3 l l0 l1) (by omega) (by omega : v < 512))]
        unfold f_X6_fillingsIn
        rw [bn_eq rfl, jdiv_nn (by omega) (by omega) (by decide) (by decide)]
        simp only [wp_some]; exact ⟨trivial, hRR⟩
      · rw [if_neg y, if_pos (by omega : a = 1)]; simp only [wp_some]; exact ⟨trivial, hRR⟩
  · rw [if_neg g, if_pos (by decide : nrm 0 = 0)]
    by_cases b0 : a < 0
    · rw [if_pos b0]; simp only [wp_some]; exact ⟨trivial, h'⟩
    · rw [if_neg b0, if_neg (by omega)]; simp only [wp_some]; exact ⟨trivial, h'⟩
