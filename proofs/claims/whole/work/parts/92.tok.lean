/-! the text, as bytes -/
def TX (n : Int) (T : Int → Int) : Prop := 0 ≤ n ∧ n ≤ 900 ∧ ∀ i, 0 ≤ i → i < n → 0 ≤ T i ∧ T i ≤ 255
def TC (n : Int) (T : Int → Int) (μ : Mem) : Prop := μ 3 3 = 1 ∧ μ 3 4 = n ∧ ∀ i, 0 ≤ i → i < n → jand (μ 1 i) 255 = T i
def TM (n : Int) (T : Int → Int) (ρ : Mem) : Prop := ρ 111 8 = n ∧ ∀ i, 0 ≤ i → i < n → ρ 114 i = T i
def bB (n : Int) (T : Int → Int) (i : Int) : Int := if i < n then T i else -1
theorem bB_in {n i : Int} {T : Int → Int} (h : TX n T) (i0 : 0 ≤ i) : -1 ≤ bB n T i ∧ bB n T i ≤ 255 := by
  unfold bB
  by_cases e : i < n
  · rw [if_pos e]; have := h.2.2 i i0 e; omega
  · rw [if_neg e]; omega
theorem byteAt_eq {n i : Int} {T : Int → Int} {μ : Mem} (h : TX n T) (c : TC n T μ) (i0 : 0 ≤ i) (i9 : i ≤ 2000) : f_X9_byteAt 3 i μ = some (bB n T i, μ) := by
  obtain ⟨h1, h2, h3⟩ := h
  obtain ⟨c1, c2, c3⟩ := c
  unfold f_X9_byteAt bB
  rw [c1, c2, if_neg (by decide : ¬ (1 : Int) < 0), nrm_id (z := i) (by omega) (by omega), nrm_id (z := n) (by omega) (by omega), if_neg (by omega : ¬ i < 0)]
  by_cases e : i < n
  · rw [if_neg (by omega), gd_pos kk_1, if_pos (by show i < 900; omega), gd_pos (by omega), if_pos e, c3 i i0 e]
  · rw [if_pos (by omega), if_neg e]
theorem see_eq {n i : Int} {T : Int → Int} {ρ : Mem} (h : TX n T) (c : TM n T ρ) (i0 : 0 ≤ i) (i9 : i ≤ 2000) : f_X12_see 111 i ρ = some (bB n T i, ρ) := by
  obtain ⟨h1, h2, h3⟩ := h
  obtain ⟨c1, c2⟩ := c
  unfold f_X12_see bB
  rw [c1, nrm_id (z := i) (by omega) (by omega), nrm_id (z := n) (by omega) (by omega)]
  by_cases e : i < n
  · rw [if_neg (by omega), gd_pos (by omega), if_pos e, show (111 + 3 : Int) = 114 from rfl, c2 i i0 e]
  · rw [if_pos (by omega), if_neg e]
def lt (c : Int) : Bool := decide (97 ≤ c ∧ c ≤ 122)
def dg (c : Int) : Bool := decide (48 ≤ c ∧ c ≤ 57)
def ws (c : Int) : Bool := decide (c = 10 ∨ c = 32)
def b01 (b : Bool) : Int := if b then 1 else 0
theorem b01_0 (b : Bool) : nrm (b01 b) = 0 ↔ b = false := by cases b <;> decide
theorem isLetter_eq {c : Int} (μ : Mem) (h0 : -1 ≤ c) (h1 : c ≤ 255) : f_X9_isLetter c μ = some (b01 (lt c), μ) := by
  unfold f_X9_isLetter lt b01
  rw [nrm_id (z := c) (by omega) (by omega), show nrm 97 = 97 from rfl, show nrm 122 = 122 from rfl]
  by_cases a : c < 97
  · rw [if_pos a, decide_eq_false (by omega)]; rfl
  · rw [if_neg a]
    by_cases b : 122 < c
    · rw [if_pos b, decide_eq_false (by omega)]; rfl
    · rw [if_neg b, decide_eq_true (by omega)]; rfl
theorem isSmall_eq {c : Int} (μ : Mem) (h0 : -1 ≤ c) (h1 : c ≤ 255) : f_X12_isSmall c μ = some (b01 (lt c), μ) := isLetter_eq μ h0 h1
theorem isDigit_eq {c : Int} (μ : Mem) (h0 : -1 ≤ c) (h1 : c ≤ 255) : f_X9_isDigit c μ = some (b01 (dg c), μ) := by
  unfold f_X9_isDigit dg b01
  rw [nrm_id (z := c) (by omega) (by omega), show nrm 48 = 48 from rfl, show nrm 57 = 57 from rfl]
  by_cases a : c < 48
  · rw [if_pos a, decide_eq_false (by omega)]; rfl
  · rw [if_neg a]
    by_cases b : 57 < c
    · rw [if_pos b, decide_eq_false (by omega)]; rfl
    · rw [if_neg b, decide_eq_true (by omega)]; rfl
theorem isDigit_m {c : Int} (μ : Mem) (h0 : -1 ≤ c) (h1 : c ≤ 255) : f_X12_isDigit c μ = some (b01 (dg c), μ) := isDigit_eq μ h0 h1
/-- The end of a run of bytes of a sort. -/
def runF (P : Int → Bool) (T : Int → Int) : Nat → Int → Int
  | 0, b => b
  | d + 1, b => if P (T b) = true then runF P T d (b + 1) else b
def rn (P : Int → Bool) (n : Int) (T : Int → Int) (b : Int) : Int := runF P T (n - b).toNat b
theorem rn_n {P : Int → Bool} {n b : Int} {T : Int → Int} (h : n ≤ b) : rn P n T b = b := by
  unfold rn
  rw [show (n - b).toNat = 0 by omega]
  rfl
theorem rn_s {P : Int → Bool} {n b : Int} {T : Int → Int} (h : b < n) : rn P n T b = if P (T b) = true then rn P n T (b + 1) else b := by
  unfold rn
  rw [show (n - b).toNat = (n - (b + 1)).toNat + 1 by omega]
  rfl
theorem rn_in {P : Int → Bool} {n : Int} {T : Int → Int} : ∀ (d : Nat) (b : Int), n - b ≤ d → b ≤ n → b ≤ rn P n T b ∧ rn P n T b ≤ n
  | 0, b, h, hb => by rw [rn_n (by omega)]; omega
  | d + 1, b, h, hb => by
    by_cases e : b < n
    · rw [rn_s e]
      by_cases q : P (T b) = true
      · rw [if_pos q]
        have := rn_in (P := P) (n := n) (T := T) d (b + 1) (by omega) (by omega)
        omega
      · rw [if_neg q]; omega
    · rw [rn_n (by omega)]; omega
theorem rn_b {P : Int → Bool} {n b : Int} {T : Int → Int} (hb : b ≤ n) : b ≤ rn P n T b ∧ rn P n T b ≤ n := rn_in (n - b).toNat b (by omega) hb
/-- What the digits from b on make of v, those of the first three places. -/
def nvF (T : Int → Int) (a : Int) : Nat → Int → Int → Int
  | 0, _, v => v
  | d + 1, b, v => if dg (T b) = true then nvF T a d (b + 1) (if b - a < 3 then v * 10 + T b - 48 else v) else v
def nu (n : Int) (T : Int → Int) (a b v : Int) : Int := nvF T a (n - b).toNat b v
theorem nu_n {n a b v : Int} {T : Int → Int} (h : n ≤ b) : nu n T a b v = v := by
  unfold nu
  rw [show (n - b).toNat = 0 by omega]
  rfl
theorem nu_s {n a b v : Int} {T : Int → Int} (h : b < n) : nu n T a b v = if dg (T b) = true then nu n T a (b + 1) (if b - a < 3 then v * 10 + T b - 48 else v) else v := by
  unfold nu
  rw [show (n - b).toNat = (n - (b + 1)).toNat + 1 by omega]
  rfl
def nuI (a b v : Int) : Prop := 0 ≤ v ∧ a ≤ b ∧ ((b = a ∧ v = 0) ∨ (b = a + 1 ∧ v ≤ 9) ∨ (b = a + 2 ∧ v ≤ 99) ∨ (a + 3 ≤ b ∧ v ≤ 999))
theorem nuI_s {a b v t : Int} (h : nuI a b v) (ht : dg t = true) : nuI a (b + 1) (if b - a < 3 then v * 10 + t - 48 else v) := by
  have := of_decide_eq_true ht
  unfold nuI at h ⊢
  split <;> omega
theorem nu_in {n a : Int} {T : Int → Int} : ∀ (d : Nat) (b v : Int), n - b ≤ d → nuI a b v → 0 ≤ nu n T a b v ∧ nu n T a b v ≤ 999
  | 0, b, v, h, hv => by rw [nu_n (by omega)]; unfold nuI at hv; omega
  | d + 1, b, v, h, hv => by
    by_cases e : b < n
    · rw [nu_s e]
      by_cases q : dg (T b) = true
      · rw [if_pos q]
        exact nu_in d (b + 1) _ (by omega) (nuI_s hv q)
      · rw [if_neg q]; unfold nuI at hv; omega
    · rw [nu_n (by omega)]; unfold nuI at hv; omega
theorem digits_c {n a : Int} {T : Int → Int} {μ : Mem} (h : TX n T) (c : TC n T μ) (a0 : 0 ≤ a) : ∀ (d m : Nat) (b v : Int), n - b ≤ d → b ≤ n → d < m → nuI a b v → f_X9_takeDigits_w4 m 3 a b v μ = f_X9_takeDigits_j50 3 a (rn dg n T b) (nu n T a b v) μ := by
  have h2 := h.2.1
  intro d
  induction d with
  | zero =>
    intro m b v hd hb hm hv
    obtain ⟨m, rfl⟩ : ∃ q, m = q + 1 := ⟨m - 1, by omega⟩
    have hv' := hv
    unfold nuI at hv'
    rw [f_X9_takeDigits_w4, c.2.1, nrm_id (z := n) (by omega) (by omega), nrm_id (z := b) (by omega) (by omega), if_pos (by omega), rn_n (by omega), nu_n (by omega)]
  | succ d ih =>
    intro m b v hd hb hm hv
    obtain ⟨m, rfl⟩ : ∃ q, m = q + 1 := ⟨m - 1, by omega⟩
    have hv' := hv
    unfold nuI at hv'
    have b0 : 0 ≤ b := by omega
    rw [f_X9_takeDigits_w4, c.2.1, nrm_id (z := n) (by omega) (by omega), nrm_id (z := b) (by omega) (by omega)]
    by_cases e : b < n
    · have hT := h.2.2 b b0 e
      have eb : bB n T b = T b := if_pos e
      rw [if_neg (by omega), bn_eq (byteAt_eq h c b0 (by omega)), eb, bn_eq (isDigit_eq μ (by omega) (by omega)), rn_s e, nu_s e]
      by_cases q : dg (T b) = true
      · rw [if_neg (by rw [b01_0, q]; decide), if_pos q, if_pos q, nrm_id (z := b - a) (by omega) (by omega), show nrm 3 = 3 from rfl]
        unfold f_X9_takeDigits_j44
        by_cases z : b - a < 3
        · have hs := nuI_s hv q
          rw [if_pos z] at hs
          rw [if_neg (by omega), bn_eq (byteAt_eq h c b0 (by omega)), eb, nm_eq, if_pos z, ih m (b + 1) _ (by omega) (by omega) (by omega) hs]
        · have hs := nuI_s hv q
          rw [if_neg z] at hs
          rw [if_pos (by omega), if_neg z, ih m (b + 1) _ (by omega) (by omega) (by omega) hs]
      · rw [if_pos (by rw [b01_0]; exact Bool.eq_false_iff.mpr q), if_neg q, if_neg q]
    · rw [if_pos (by omega), rn_n (by omega), nu_n (by omega)]
def FN (ρ ρ' : Mem) : Prop := ∀ c i, ¬ (c = 111 ∧ (i = 6 ∨ i = 7 ∨ i = 9 ∨ i = 10)) → ρ' c i = ρ c i
theorem FN_rf {ρ : Mem} : FN ρ ρ := fun _ _ _ => rfl
theorem FN_tr {a b c : Mem} (h : FN a b) (k : FN b c) : FN a c := fun x i e => (k x i e).trans (h x i e)
theorem FN_ms {ρ : Mem} {i v : Int} (h : i = 6 ∨ i = 7 ∨ i = 9 ∨ i = 10) : FN ρ (ms ρ 111 i v) := by
  intro c j e
  rw [ms_at, if_neg (by omega)]
theorem TM_fn {n : Int} {T : Int → Int} {ρ ρ' : Mem} (h : TM n T ρ) (s : FN ρ ρ') : TM n T ρ' := by
  refine ⟨by rw [s 111 8 (by omega)]; exact h.1, fun i i0 i1 => by rw [s 114 i (by omega)]; exact h.2 i i0 i1⟩
theorem digits_m {n a : Int} {T : Int → Int} (h : TX n T) (a0 : 0 ≤ a) (a9 : a ≤ 900) : ∀ (d m : Nat) (b v : Int) (ρ : Mem), n - b ≤ d → b ≤ n → d < m → nuI a b v → TM n T ρ → ρ 111 6 = a → ρ 111 7 = b → ρ 111 10 = v →
    ∃ ρ', f_X12_next_w146 m 111 ρ = some (0, ρ') ∧ FN ρ ρ' ∧ ρ' 111 6 = a ∧ ρ' 111 7 = rn dg n T b ∧ ρ' 111 9 = (if rn dg n T b - a ≤ 3 then 23 else 25) ∧ ρ' 111 10 = nu n T a b v := by
  have h2 := h.2.1
  have stop : ∀ (m : Nat) (b v : Int) (ρ : Mem), 0 ≤ b → b ≤ n → TM n T ρ → ρ 111 6 = a → ρ 111 7 = b → ρ 111 10 = v → (n ≤ b ∨ ¬ dg (T b) = true) → ∃ ρ', f_X12_next_w146 (m + 1) 111 ρ = some (0, ρ') ∧ FN ρ ρ' ∧ ρ' 111 6 = a ∧ ρ' 111 7 = b ∧ ρ' 111 9 = (if b - a ≤ 3 then 23 else 25) ∧ ρ' 111 10 = v := by
    intro m b v ρ b0 hb c e6 e7 e10 hs
    have nd : dg (bB n T b) = false := by
      unfold bB
      by_cases e : b < n
      · rw [if_pos e]
        rcases hs with q | q
        · omega
        · exact Bool.eq_false_iff.mpr q
      · rw [if_neg e]; rfl
    have hb2 := bB_in h b0
    refine ⟨ms ρ 111 9 (if b - a ≤ 3 then 23 else 25), ?_, FN_ms (by omega), by rw [ms_ni (by decide)]; exact e6, by rw [ms_ni (by decide)]; exact e7, ms_eq .., by rw [ms_ni (by decide)]; exact e10⟩
    rw [f_X12_next_w146, e7, bn_eq (see_eq h c b0 (by omega)), bn_eq (isDigit_m ρ hb2.1 hb2.2), if_pos ((b01_0 _).mpr nd), e6, e7, nrm_id (z := b - a) (by omega) (by omega), show nrm 3 = 3 from rfl]
    unfold f_X12_next_j230
    by_cases z : b - a ≤ 3
    · rw [if_pos z, if_pos z, gd_pos kk_111, nm_eq]
    · rw [if_neg z, if_neg z, gd_pos kk_111, nm_eq]
  intro d
  induction d with
  | zero =>
    intro m b v ρ hd hb hm hv c e6 e7 e10
    obtain ⟨m, rfl⟩ : ∃ q, m = q + 1 := ⟨m - 1, by omega⟩
    have hv' := hv
    unfold nuI at hv'
    rw [rn_n (by omega), nu_n (by omega)]
    exact stop m b v ρ (by omega) hb c e6 e7 e10 (.inl (by omega))
  | succ d ih =>
    intro m b v ρ hd hb hm hv c e6 e7 e10
    obtain ⟨m, rfl⟩ : ∃ q, m = q + 1 := ⟨m - 1, by omega⟩
    have hv' := hv
    unfold nuI at hv'
    have b0 : 0 ≤ b := by omega
    by_cases e : b < n
    · by_cases q : dg (T b) = true
      · have hT := h.2.2 b b0 e
        have eb : bB n T b = T b := if_pos e
        have hs := nuI_s hv q
        rw [rn_s e, nu_s e, if_pos q, if_pos q]
        rw [f_X12_next_w146, e7, bn_eq (see_eq h c b0 (by omega)), eb, bn_eq (isDigit_m ρ (by omega) (by omega)), if_neg (by rw [b01_0, q]; decide), e6, e7, nrm_id (z := b - a) (by omega) (by omega), show nrm 3 = 3 from rfl]
        unfold f_X12_next_j196
        by_cases z : b - a < 3
        · rw [if_pos z] at hs ⊢
          rw [if_neg (by omega), bn_eq (see_eq h c b0 (by omega)), eb, nm_eq, nm_eq, e10, ms_ni (by decide), e7, show 10 * v + T b - 48 = v * 10 + T b - 48 by omega]
          have s : FN ρ (ms (ms ρ 111 10 (v * 10 + T b - 48)) 111 7 (b + 1)) := FN_tr (FN_ms (by omega)) (FN_ms (by omega))
          obtain ⟨ρ', y1, y2, y3⟩ := ih m (b + 1) (v * 10 + T b - 48) _ (by omega) (by omega) (by omega) hs (TM_fn c s) (by rw [ms_ni (by decide), ms_ni (by decide)]; exact e6) (ms_eq ..) (by rw [ms_ni (by decide), ms_eq])
          exact ⟨ρ', y1, FN_tr s y2, y3⟩
        · rw [if_neg z] at hs ⊢
          rw [if_pos (by omega), nm_eq, e7]
          have s : FN ρ (ms ρ 111 7 (b + 1)) := FN_ms (by omega)
          obtain ⟨ρ', y1, y2, y3⟩ := ih m (b + 1) v _ (by omega) (by omega) (by omega) hs (TM_fn c s) (by rw [ms_ni (by decide)]; exact e6) (ms_eq ..) (by rw [ms_ni (by decide)]; exact e10)
          exact ⟨ρ', y1, FN_tr s y2, y3⟩
      · rw [rn_s e, nu_s e, if_neg q, if_neg q]
        exact stop m b v ρ b0 hb c e6 e7 e10 (.inr q)
    · rw [rn_n (by omega), nu_n (by omega)]
      exact stop m b v ρ b0 hb c e6 e7 e10 (.inl (by omega))
