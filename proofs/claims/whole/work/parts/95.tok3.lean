def sgK (c : Int) : Int := if six 1 c < 0 then 25 else 30 + six 1 c
def sgF (c : Int) : Nat → Int → Int → Int
  | 0, _, x => x
  | d + 1, k, x => sgF c d (k + 1) (if c = sch 1 k then 30 + k else x)
theorem sg_all : ∀ c : Nat, c < 256 → sgF (c : Int) 12 0 25 = sgK (c : Int) ∧ cK (sgK (c : Int)) = (if six 1 (c : Int) < 0 then 1 else (c : Int)) ∧ (sgK (c : Int) = 25 ∨ (30 ≤ sgK (c : Int) ∧ sgK (c : Int) ≤ 41)) ∧ nrm (jc (c : Int)) = (c : Int) ∧ nrm (six 1 (c : Int)) = six 1 (c : Int) := by decide +kernel
theorem sg_is {c : Int} (c0 : 0 ≤ c) (c1 : c ≤ 255) : sgF c 12 0 25 = sgK c ∧ cK (sgK c) = (if six 1 c < 0 then 1 else c) ∧ (sgK c = 25 ∨ (30 ≤ sgK c ∧ sgK c ≤ 41)) ∧ nrm (jc c) = c ∧ nrm (six 1 c) = six 1 c := by
  obtain ⟨k, rfl⟩ := Int.eq_ofNat_of_zero_le c0
  exact sg_all k (by omega)
theorem sch1_in : ∀ k : Nat, k < 12 → 0 ≤ sch 1 (k : Int) ∧ sch 1 (k : Int) ≤ 255 := by decide +kernel
theorem cK_all : ∀ k : Nat, k < 42 → 0 ≤ cK (k : Int) ∧ cK (k : Int) < 256 := by decide +kernel
theorem cK_in {K : Int} (h0 : 0 ≤ K) (h1 : K ≤ 41) : 0 ≤ cK K ∧ cK K < 256 := by
  obtain ⟨k, rfl⟩ := Int.eq_ofNat_of_zero_le h0
  exact cK_all k (by omega)
/-- From b on stands next the token of kind K from a to e, its number V. -/
def Tok (n : Int) (T : Int → Int) (b a e K V : Int) : Prop := a = rn ws n T b ∧ ((n ≤ a ∧ e = a ∧ K = 24) ∨
  (a < n ∧ lt (T a) = true ∧ e = rn lt n T a ∧ isKw T a e K) ∨
  (a < n ∧ lt (T a) = false ∧ dg (T a) = true ∧ e = rn dg n T a ∧ K = (if e - a ≤ 3 then 23 else 25) ∧ (K = 23 → V = nu n T a a 0)) ∨
  (a < n ∧ lt (T a) = false ∧ dg (T a) = false ∧ e = a + 1 ∧ K = sgK (T a)))
theorem Kw_in {T : Int → Int} {a e K : Int} (h : isKw T a e K) : 0 ≤ K ∧ K ≤ 22 := by
  rcases h with ⟨j, j1, _, j3⟩ | ⟨h, _⟩ <;> omega
theorem Tok_one {n b a e K V a' e' K' V' : Int} {T : Int → Int} (h : TX n T) (b0 : 0 ≤ b) (hb : b ≤ n) (x : Tok n T b a e K V) (y : Tok n T b a' e' K' V') : a = a' ∧ e = e' ∧ K = K' ∧ (K = 23 → V = V') := by
  obtain ⟨x1, x2⟩ := x
  obtain ⟨y1, y2⟩ := y
  have ea : a = a' := by omega
  subst ea
  rcases x2 with ⟨p1, p2, p3⟩ | ⟨p1, p2, p3, p4⟩ | ⟨p1, p2, p3, p4, p5, p6⟩ | ⟨p1, p2, p3, p4, p5⟩
  · rcases y2 with ⟨q1, q2, q3⟩ | ⟨q1, _⟩ | ⟨q1, _⟩ | ⟨q1, _⟩
    · exact ⟨rfl, by omega, by omega, fun z => by omega⟩
    · omega
    · omega
    · omega
  · rcases y2 with ⟨q1, q2, q3⟩ | ⟨q1, q2, q3, q4⟩ | ⟨q1, q2, _⟩ | ⟨q1, q2, _⟩
    · omega
    · have ee : e = e' := by omega
      subst ee
      have := Kw_in p4
      exact ⟨rfl, rfl, isKw_one p4 q4, fun z => by omega⟩
    · rw [p2] at q2; cases q2
    · rw [p2] at q2; cases q2
  · rcases y2 with ⟨q1, q2, q3⟩ | ⟨q1, q2, q3, q4⟩ | ⟨q1, q2, q3, q4, q5, q6⟩ | ⟨q1, q2, q3, _⟩
    · omega
    · rw [p2] at q2; cases q2
    · have ee : e = e' := by omega
      subst ee
      have ek : K = K' := by rw [p5, q5]
      exact ⟨rfl, rfl, ek, fun z => by rw [p6 z, q6 (by omega)]⟩
    · rw [p3] at q3; cases q3
  · rcases y2 with ⟨q1, q2, q3⟩ | ⟨q1, q2, q3, q4⟩ | ⟨q1, q2, q3, q4, q5, q6⟩ | ⟨q1, q2, q3, q4, q5⟩
    · omega
    · rw [p2] at q2; cases q2
    · rw [p3] at q3; cases q3
    · have w0 := rn_b (P := ws) (T := T) hb
      have := (sg_is (h.2.2 a (by omega) p1).1 (h.2.2 a (by omega) p1).2).2.2.1
      exact ⟨rfl, by omega, by omega, fun z => by omega⟩
theorem Tok_in {n b a e K V : Int} {T : Int → Int} (h : TX n T) (b0 : 0 ≤ b) (hb : b ≤ n) (x : Tok n T b a e K V) : b ≤ a ∧ a ≤ e ∧ e ≤ n ∧ 0 ≤ K ∧ K ≤ 41 ∧ (K ≠ 24 → a < n ∧ a < e) ∧ (K = 24 → a = n) ∧ (K = 23 → 0 ≤ V ∧ V ≤ 999) := by
  obtain ⟨x1, x2⟩ := x
  have w0 := rn_b (P := ws) (T := T) hb
  rcases x2 with ⟨p1, p2, p3⟩ | ⟨p1, p2, p3, p4⟩ | ⟨p1, p2, p3, p4, p5, p6⟩ | ⟨p1, p2, p3, p4, p5⟩
  · refine ⟨by omega, by omega, by omega, by omega, by omega, fun z => by omega, fun z => by omega, fun z => by omega⟩
  · have := Kw_in p4
    have e1 : rn lt n T a = rn lt n T (a + 1) := by rw [rn_s p1, if_pos p2]
    have e2 := rn_b (P := lt) (T := T) (by omega : a + 1 ≤ n)
    refine ⟨by omega, by omega, by omega, by omega, by omega, fun z => by omega, fun z => by omega, fun z => by omega⟩
  · have e1 : rn dg n T a = rn dg n T (a + 1) := by rw [rn_s p1, if_pos p3]
    have e2 := rn_b (P := dg) (T := T) (by omega : a + 1 ≤ n)
    have e3 : K = 23 ∨ K = 25 := by rw [p5]; split <;> simp
    refine ⟨by omega, by omega, by omega, by omega, by omega, fun z => by omega, fun z => by omega, fun z => ?_⟩
    rw [p6 z]
    exact nu_in (n - a).toNat a 0 (by omega) ⟨by omega, by omega, .inl ⟨rfl, rfl⟩⟩
  · have := (sg_is (h.2.2 a (by omega) p1).1 (h.2.2 a (by omega) p1).2).2.2.1
    refine ⟨by omega, by omega, by omega, by omega, by omega, fun z => by omega, fun z => by omega, fun z => by omega⟩
theorem letters_m {n a : Int} {T : Int → Int} (h : TX n T) (a0 : 0 ≤ a) : ∀ (d m : Nat) (b : Int) (ρ : Mem), n - b ≤ d → a ≤ b → b ≤ n → d < m → TM n T ρ → ρ 111 6 = a → ρ 111 7 = b →
    ∃ ρ' K, f_X12_next_w89 m 111 ρ = some (0, ρ') ∧ FN ρ ρ' ∧ ρ' 111 6 = a ∧ ρ' 111 7 = rn lt n T b ∧ ρ' 111 9 = K ∧ isKw T a (rn lt n T b) K := by
  have h2 := h.2.1
  have stop : ∀ (m : Nat) (b : Int) (ρ : Mem), a ≤ b → b ≤ n → TM n T ρ → ρ 111 6 = a → ρ 111 7 = b → (n ≤ b ∨ ¬ lt (T b) = true) → ∃ ρ' K, f_X12_next_w89 (m + 1) 111 ρ = some (0, ρ') ∧ FN ρ ρ' ∧ ρ' 111 6 = a ∧ ρ' 111 7 = b ∧ ρ' 111 9 = K ∧ isKw T a b K := by
    intro m b ρ ab hb c e6 e7 hs
    have nd : lt (bB n T b) = false := by
      unfold bB
      by_cases e : b < n
      · rw [if_pos e]
        rcases hs with q | q
        · omega
        · exact Bool.eq_false_iff.mpr q
      · rw [if_neg e]; rfl
    have hb2 := bB_in h (by omega : 0 ≤ b)
    obtain ⟨K, k1, k2⟩ := keyAt_eq h c e6 e7 a0 ab hb
    refine ⟨ms ρ 111 9 K, K, ?_, FN_ms (by omega), by rw [ms_ni (by decide)]; exact e6, by rw [ms_ni (by decide)]; exact e7, ms_eq .., k2⟩
    rw [f_X12_next_w89, e7, bn_eq (see_eq h c (by omega) (by omega)), bn_eq (isSmall_eq ρ hb2.1 hb2.2), if_pos ((b01_0 _).mpr nd), bn_eq k1, nm_eq]
  intro d
  induction d with
  | zero =>
    intro m b ρ hd ab hb hm c e6 e7
    obtain ⟨m, rfl⟩ : ∃ q, m = q + 1 := ⟨m - 1, by omega⟩
    rw [rn_n (by omega)]
    exact stop m b ρ ab hb c e6 e7 (.inl (by omega))
  | succ d ih =>
    intro m b ρ hd ab hb hm c e6 e7
    obtain ⟨m, rfl⟩ : ∃ q, m = q + 1 := ⟨m - 1, by omega⟩
    by_cases e : b < n
    · by_cases q : lt (T b) = true
      · have hT := h.2.2 b (by omega) e
        have eb : bB n T b = T b := if_pos e
        rw [rn_s e, if_pos q]
        rw [f_X12_next_w89, e7, bn_eq (see_eq h c (by omega) (by omega)), eb, bn_eq (isSmall_eq ρ (by omega) (by omega)), if_neg (by rw [b01_0, q]; decide), nm_eq, e7]
        have s : FN ρ (ms ρ 111 7 (b + 1)) := FN_ms (by omega)
        obtain ⟨ρ', K, y1, y2, y3⟩ := ih m (b + 1) _ (by omega) (by omega) (by omega) (by omega) (TM_fn c s) (by rw [ms_ni (by decide)]; exact e6) (ms_eq ..)
        exact ⟨ρ', K, y1, FN_tr s y2, y3⟩
      · rw [rn_s e, if_neg q]
        exact stop m b ρ ab hb c e6 e7 (.inr q)
    · rw [rn_n (by omega)]
      exact stop m b ρ ab hb c e6 e7 (.inl (by omega))
theorem signs_m {n a : Int} {T : Int → Int} (h : TX n T) (a0 : 0 ≤ a) (an : a < n) : ∀ (d m : Nat) (k : Nat) (x : Int) (ρ : Mem), k + d = 12 → d < m → TM n T ρ → ρ 111 6 = a → ρ 111 9 = x →
    ∃ ρ', f_X12_next_w254 m 111 (k : Int) ρ = some (0, ρ') ∧ (∀ c i, ¬ (c = 111 ∧ i = 9) → ρ' c i = ρ c i) ∧ ρ' 111 9 = sgF (T a) d k x := by
  have h2 := h.2.1
  have hT := h.2.2 a a0 an
  intro d
  induction d with
  | zero =>
    intro m k x ρ hk hm c e6 e9
    obtain ⟨m, rfl⟩ : ∃ q, m = q + 1 := ⟨m - 1, by omega⟩
    obtain rfl : k = 12 := by omega
    refine ⟨ρ, ?_, fun _ _ _ => rfl, e9⟩
    rw [f_X12_next_w254, if_pos (by decide)]
  | succ d ih =>
    intro m k x ρ hk hm c e6 e9
    obtain ⟨m, rfl⟩ : ∃ q, m = q + 1 := ⟨m - 1, by omega⟩
    have eb : bB n T a = T a := if_pos an
    have sk := sch1_in k (by omega)
    rw [f_X12_next_w254, nrm_id (z := (k : Int)) (by omega) (by omega), if_neg (by show ¬ ((12 : Int) ≤ k); omega), e6, bn_eq (see_eq h c a0 (by omega)), eb, gd_pos (by omega), nrm_id (z := T a) (by omega) (by omega), nrm_id (z := sch 1 (k : Int)) (by omega) (by omega)]
    unfold f_X12_next_j288
    rw [show (k : Int) + 1 = ((k + 1 : Nat) : Int) by omega]
    by_cases z : T a = sch 1 (k : Int)
    · rw [if_pos z, nm_eq]
      have s : FN ρ (ms ρ 111 9 (30 + (k : Int))) := FN_ms (by omega)
      obtain ⟨ρ', y1, y2, y3⟩ := ih m (k + 1) (30 + k) _ (by omega) (by omega) (TM_fn c s) (by rw [ms_ni (by decide)]; exact e6) (ms_eq ..)
      refine ⟨ρ', y1, fun c i e => by rw [y2 c i e, ms_at, if_neg e], ?_⟩
      rw [y3]
      show _ = sgF (T a) d ((k : Int) + 1) (if T a = sch 1 k then 30 + (k : Int) else x)
      rw [if_pos z, show (k : Int) + 1 = ((k + 1 : Nat) : Int) by omega]
    · rw [if_neg z]
      obtain ⟨ρ', y1, y2, y3⟩ := ih m (k + 1) x ρ (by omega) (by omega) c e6 e9
      refine ⟨ρ', y1, y2, ?_⟩
      rw [y3]
      show _ = sgF (T a) d ((k : Int) + 1) (if T a = sch 1 k then 30 + (k : Int) else x)
      rw [if_neg z, show (k : Int) + 1 = ((k + 1 : Nat) : Int) by omega]
theorem at_m {n a : Int} {T : Int → Int} {m : Nat} {ρ : Mem} (h : TX n T) (a0 : 0 ≤ a) (an : a ≤ n) (c : TM n T ρ) (e6 : ρ 111 6 = a) (hw : n ≤ a ∨ ws (T a) = false) :
    ∃ ρ' e K V, f_X12_next_w8 (m + 1) 111 ρ = some (0, ρ') ∧ FN ρ ρ' ∧ ((n ≤ a ∧ e = a ∧ K = 24) ∨ (a < n ∧ lt (T a) = true ∧ e = rn lt n T a ∧ isKw T a e K) ∨
  (a < n ∧ lt (T a) = false ∧ dg (T a) = true ∧ e = rn dg n T a ∧ K = (if e - a ≤ 3 then 23 else 25) ∧ (K = 23 → V = nu n T a a 0)) ∨
  (a < n ∧ lt (T a) = false ∧ dg (T a) = false ∧ e = a + 1 ∧ K = sgK (T a))) ∧ ρ' 111 6 = a ∧ ρ' 111 7 = e ∧ ρ' 111 9 = K ∧ (K = 23 → ρ' 111 10 = V) := by
  have h2 := h.2.1
  have hb := bB_in h a0
  have nw : bB n T a ≠ 10 ∧ bB n T a ≠ 32 := by
    unfold bB
    by_cases e : a < n
    · rw [if_pos e]
      rcases hw with q | q
      · omega
      · have := of_decide_eq_false q; omega
    · rw [if_neg e]; omega
  have s7 : FN ρ (ms ρ 111 7 a) := FN_ms (by omega)
  have c7 := TM_fn c s7
  have e67 : ms ρ 111 7 a 111 6 = a := by rw [ms_ni (by decide)]; exact e6
  rw [f_X12_next_w8, e6, bn_eq (see_eq h c a0 (by omega)), nrm_id (z := bB n T a) (by omega) (by omega), show nrm 10 = 10 from rfl, if_neg nw.1, e6, bn_eq (see_eq h c a0 (by omega)), nrm_id (z := bB n T a) (by omega) (by omega), show nrm 32 = 32 from rfl, if_neg nw.2, e6, nm_eq, e67, c7.1, nrm_id (z := a) (by omega) (by omega), nrm_id (z := n) (by omega) (by omega)]
  by_cases e : a < n
  · have hT := h.2.2 a a0 e
    have eb : bB n T a = T a := if_pos e
    rw [if_pos e, bn_eq (see_eq h c7 a0 (by omega)), eb, bn_eq (isSmall_eq _ (by omega) (by omega))]
    by_cases q : lt (T a) = true
    · rw [if_neg (by rw [b01_0, q]; decide)]
      obtain ⟨ρ', K, y1, y2, y3, y4, y5, y6⟩ := letters_m h a0 (n - a).toNat FU a _ (by omega) (by omega) (by omega) (by unfold FU; omega) c7 e67 (ms_eq ..)
      have := Kw_in y6
      exact ⟨ρ', _, K, 0, y1, FN_tr s7 y2, .inr (.inl ⟨e, q, rfl, y6⟩), y3, y4, y5, fun z => by omega⟩
    · have q' := Bool.eq_false_iff.mpr q
      rw [if_pos (by rw [b01_0]; exact q'), e67, bn_eq (see_eq h c7 a0 (by omega)), eb, bn_eq (isDigit_m _ (by omega) (by omega))]
      by_cases y : dg (T a) = true
      · rw [if_neg (by rw [b01_0, y]; decide), nm_eq]
        have s10 : FN (ms ρ 111 7 a) (ms (ms ρ 111 7 a) 111 10 0) := FN_ms (by omega)
        obtain ⟨ρ', y1, y2, y3, y4, y5, y6⟩ := digits_m h a0 (by omega) (n - a).toNat FU a 0 _ (by omega) (by omega) (by unfold FU; omega) ⟨by omega, by omega, .inl ⟨rfl, rfl⟩⟩ (TM_fn c7 s10) (by rw [ms_ni (by decide)]; exact e67) (by rw [ms_ni (by decide), ms_eq]) (ms_eq ..)
        exact ⟨ρ', _, _, _, y1, FN_tr s7 (FN_tr s10 y2), .inr (.inr (.inl ⟨e, q', y, rfl, rfl, fun _ => rfl⟩)), y3, y4, y5, fun _ => y6⟩
      · have y' := Bool.eq_false_iff.mpr y
        rw [if_pos (by rw [b01_0]; exact y'), nm_eq, nm_eq, ms_eq]
        have s8 : FN (ms ρ 111 7 a) (ms (ms (ms ρ 111 7 a) 111 7 (a + 1)) 111 9 25) := FN_tr (FN_ms (by omega)) (FN_ms (by omega))
        have e8 : ms (ms (ms ρ 111 7 a) 111 7 (a + 1)) 111 9 25 111 6 = a := by rw [ms_ni (by decide), ms_ni (by decide)]; exact e67
        obtain ⟨ρ', y1, y2, y3⟩ := signs_m h a0 e 12 FU 0 25 _ (by decide) (by decide) (TM_fn c7 s8) e8 (ms_eq ..)
        have sg := sg_is hT.1 hT.2
        rw [show ((0 : Nat) : Int) = 0 from rfl] at y1 y3
        have yy : ρ' 111 9 = sgK (T a) := by rw [y3]; exact sg.1
        refine ⟨ρ', a + 1, sgK (T a), 0, y1, FN_tr s7 (FN_tr s8 (fun c i e => y2 c i (by omega))), .inr (.inr (.inr ⟨e, q', y', rfl, rfl⟩)), ?_, ?_, yy, fun z => ?_⟩
        · rw [y2 111 6 (by omega)]; exact e8
        · rw [y2 111 7 (by omega), ms_ni (by decide), ms_eq]
        · have := sg.2.2.1; omega
  · rw [if_neg e, nm_eq]
    exact ⟨_, a, 24, 0, rfl, FN_tr s7 (FN_ms (by omega)), .inl ⟨by omega, rfl, rfl⟩, by rw [ms_ni (by decide)]; exact e67, by rw [ms_ni (by decide), ms_eq], ms_eq .., fun z => by omega⟩
theorem next_m {n b : Int} {T : Int → Int} {ρ : Mem} (h : TX n T) (b0 : 0 ≤ b) (hb : b ≤ n) (c : TM n T ρ) (e7 : ρ 111 7 = b) :
    ∃ ρ' a e K V, f_X12_next 111 ρ = some (0, ρ') ∧ FN ρ ρ' ∧ Tok n T b a e K V ∧ ρ' 111 6 = a ∧ ρ' 111 7 = e ∧ ρ' 111 9 = K ∧ (K = 23 → ρ' 111 10 = V) := by
  have h2 := h.2.1
  have lp : ∀ (d m : Nat) (x : Int) (ρ : Mem), n - x ≤ d → 0 ≤ x → x ≤ n → d < m → TM n T ρ → ρ 111 6 = x → ∃ ρ' e K V, f_X12_next_w8 m 111 ρ = some (0, ρ') ∧ FN ρ ρ' ∧ Tok n T x (rn ws n T x) e K V ∧ ρ' 111 6 = rn ws n T x ∧ ρ' 111 7 = e ∧ ρ' 111 9 = K ∧ (K = 23 → ρ' 111 10 = V) := by
    intro d
    induction d with
    | zero =>
      intro m x ρ hd x0 xn hm c e6
      obtain ⟨m, rfl⟩ : ∃ q, m = q + 1 := ⟨m - 1, by omega⟩
      have er : rn ws n T x = x := rn_n (by omega)
      obtain ⟨ρ', e, K, V, y1, y2, y3, y4⟩ := at_m (m := m) h x0 xn c e6 (.inl (by omega))
      unfold Tok
      rw [er]
      exact ⟨ρ', e, K, V, y1, y2, ⟨rfl, y3⟩, y4⟩
    | succ d ih =>
      intro m x ρ hd x0 xn hm c e6
      obtain ⟨m, rfl⟩ : ∃ q, m = q + 1 := ⟨m - 1, by omega⟩
      by_cases e : x < n ∧ ws (T x) = true
      · have er : rn ws n T x = rn ws n T (x + 1) := by rw [rn_s e.1, if_pos e.2]
        have hT := h.2.2 x x0 e.1
        have eb : bB n T x = T x := if_pos e.1
        have s : FN ρ (ms ρ 111 6 (x + 1)) := FN_ms (by omega)
        have hu : f_X12_next_w8 (m + 1) 111 ρ = f_X12_next_w8 m 111 (ms ρ 111 6 (x + 1)) := by
          rw [f_X12_next_w8, e6, bn_eq (see_eq h c x0 (by omega)), eb, nrm_id (z := T x) (by omega) (by omega), show nrm 10 = 10 from rfl]
          unfold f_X12_next_j34
          by_cases z : T x = 10
          · rw [if_pos z, nm_eq, e6]
          · have z2 : T x = 32 := by have := of_decide_eq_true e.2; omega
            rw [if_neg z, e6, bn_eq (see_eq h c x0 (by omega)), eb, nrm_id (z := T x) (by omega) (by omega), show nrm 32 = 32 from rfl, if_pos z2, nm_eq, e6]
        obtain ⟨ρ', e', K, V, y1, y2, y3, y4⟩ := ih m (x + 1) _ (by omega) (by omega) (by omega) (by omega) (TM_fn c s) (ms_eq ..)
        rw [← er] at y3 y4
        refine ⟨ρ', e', K, V, by rw [hu]; exact y1, FN_tr s y2, ⟨rfl, y3.2⟩, y4⟩
      · have hw : n ≤ x ∨ ws (T x) = false := by
          by_cases z : x < n
          · exact .inr (Bool.eq_false_iff.mpr (fun q => e ⟨z, q⟩))
          · exact .inl (by omega)
        have er : rn ws n T x = x := by
          by_cases z : x < n
          · rw [rn_s z, if_neg (fun q => e ⟨z, q⟩)]
          · exact rn_n (by omega)
        obtain ⟨ρ', e, K, V, y1, y2, y3, y4⟩ := at_m (m := m) h x0 xn c e6 hw
        unfold Tok
        rw [er]
        exact ⟨ρ', e, K, V, y1, y2, ⟨rfl, y3⟩, y4⟩
  have s : FN ρ (ms ρ 111 6 b) := FN_ms (by omega)
  obtain ⟨ρ', e, K, V, y1, y2, y3⟩ := lp (n - b).toNat FU b _ (by omega) b0 hb (by unfold FU; omega) (TM_fn c s) (ms_eq ..)
  refine ⟨ρ', _, e, K, V, ?_, FN_tr s y2, y3⟩
  unfold f_X12_next
  rw [e7, nm_eq]
  exact y1
