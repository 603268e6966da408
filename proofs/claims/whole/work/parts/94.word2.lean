theorem jshl_a (a k : Nat) (hk : k < 31) (ha : a * 2 ^ k < 2147483648) : jshl (a : Int) (k : Int) = ((a * 2 ^ k : Nat) : Int) := by
  have hp : 0 < 2 ^ k := Nat.two_pow_pos k
  have ha2 : a ≤ a * 2 ^ k := Nat.le_mul_of_pos_right a hp
  unfold jshl
  rw [← Int32.toInt_toBitVec, Int32.toBitVec_shiftLeft, shift_all ⟨k, hk⟩, jI_bv]
  have e0 : (BitVec.ofNat 32 a).toNat = a := by rw [BitVec.toNat_ofNat, Nat.mod_eq_of_lt (by omega)]
  have ek : (BitVec.ofNat 32 k).toNat = k := by rw [BitVec.toNat_ofNat, Nat.mod_eq_of_lt (by omega)]
  have e : (BitVec.ofNat 32 a <<< BitVec.ofNat 32 k).toNat = a * 2 ^ k := by
    show ((BitVec.ofNat 32 a) <<< (BitVec.ofNat 32 k).toNat).toNat = a * 2 ^ k
    rw [ek, BitVec.toNat_shiftLeft, e0, Nat.shiftLeft_eq, Nat.mod_eq_of_lt (by omega)]
  rw [bv_int (by rw [e]; exact ha), e]
def pack (k a v : Int) : Int := jor (jor (jshl v 18) (jshl a 8)) k
theorem pack_n (k a v : Nat) (hk : k < 256) (ha : a < 1024) (hv : v < 1000) : pack k a v = ((v * 262144 + a * 256 + k : Nat) : Int) := by
  unfold pack
  rw [show (18 : Int) = ((18 : Nat) : Int) from rfl, show (8 : Int) = ((8 : Nat) : Int) from rfl, jshl_a v 18 (by decide) (by omega), jshl_a a 8 (by decide) (by omega), jor_n _ _ (by omega) (by omega)]
  have e1 : v * 2 ^ 18 ||| a * 2 ^ 8 = v * 262144 + a * 256 := by
    have := Nat.shiftLeft_add_eq_or_of_lt (b := a * 2 ^ 8) (i := 18) (by omega) v
    rw [Nat.shiftLeft_eq] at this
    omega
  rw [e1, jor_n _ _ (by omega) (by omega)]
  have e2 : (v * 262144 + a * 256) ||| k = v * 262144 + a * 256 + k := by
    have := Nat.shiftLeft_add_eq_or_of_lt (b := k) (i := 8) (by omega) (v * 1024 + a)
    rw [Nat.shiftLeft_eq] at this
    rw [show 2 ^ 8 = 256 from rfl, Nat.add_mul, Nat.mul_assoc, show 1024 * 256 = 262144 from rfl] at this
    exact this.symm
  rw [e2]
theorem unpack {k a v : Int} (k0 : 0 ≤ k) (k1 : k < 256) (a0 : 0 ≤ a) (a1 : a < 1024) (v0 : 0 ≤ v) (v1 : v < 1000) : jand (pack k a v) 255 = k ∧ jand (jshr (pack k a v) 8) 1023 = a ∧ jshr (pack k a v) 18 = v := by
  obtain ⟨k, rfl⟩ := Int.eq_ofNat_of_zero_le k0
  obtain ⟨a, rfl⟩ := Int.eq_ofNat_of_zero_le a0
  obtain ⟨v, rfl⟩ := Int.eq_ofNat_of_zero_le v0
  rw [pack_n k a v (by omega) (by omega) (by omega)]
  refine ⟨?_, ?_, ?_⟩
  · rw [show (255 : Int) = ((255 : Nat) : Int) from rfl, jand_n _ _ (by omega) (by decide), show 255 = 2 ^ 8 - 1 from rfl, Nat.and_two_pow_sub_one_eq_mod]
    omega
  · rw [show (8 : Int) = ((8 : Nat) : Int) from rfl, jshr_n _ 8 (by omega) (by decide), Nat.shiftRight_eq_div_pow, show (1023 : Int) = ((1023 : Nat) : Int) from rfl, jand_n _ _ (by omega) (by decide), show 1023 = 2 ^ 10 - 1 from rfl, Nat.and_two_pow_sub_one_eq_mod]
    omega
  · rw [show (18 : Int) = ((18 : Nat) : Int) from rfl, jshr_n _ 18 (by omega) (by decide), Nat.shiftRight_eq_div_pow]
    omega
def kpM (μ : Mem) (s w : Int) : Mem := ms (ms μ 4 s w) 3 6 (s + 1)
theorem keepT_eq {k a v s : Int} {μ : Mem} (h : μ 3 6 = s) (s0 : 0 ≤ s) (s9 : s ≤ 900) : f_X9_keep 3 k a v μ = some (0, kpM μ s (pack k a v)) := by
  unfold f_X9_keep kpM pack
  rw [h, nrm_id (z := s) (by omega) (by omega), if_neg (by omega), if_neg (by show ¬ ((901 : Int) ≤ s); omega), gd_pos (by omega), nm_eq, nm_eq, show (3 + 1 : Int) = 4 from rfl, ms_nc (by decide), h]
theorem mt_c {T : Int → Int} {a e : Int} {j : Nat} (hj : j < 22) : mt T a e (pW j) ↔ (e - a = mL j ∧ ∀ i : Nat, i < mL j → sch 0 ((oL j : Nat) + (i : Nat) : Int) = T (a + i)) := by
  obtain ⟨_, h2, h3⟩ := w_same j hj
  unfold mt
  constructor
  · intro ⟨x1, x2⟩
    exact ⟨by omega, fun i hi => by rw [h3 i hi, x2 i (by omega)]⟩
  · intro ⟨x1, x2⟩
    exact ⟨by omega, fun i hi => by rw [← h3 i (by omega), x2 i (by omega)]⟩
theorem same_w {n a e : Int} {T : Int → Int} {μ : Mem} {j : Nat} (hj : j < 22) (h : TX n T) (c : TC n T μ) (a0 : 0 ≤ a) (en : e ≤ n) (hl : e - a = mL j) :
    ∀ (d m i : Nat), i + d = mL j → d < m → (∀ k : Nat, k < i → sch 0 ((oL j : Nat) + (k : Nat) : Int) = T (a + k)) →
      (mt T a e (pW j) → f_X9_isSame_w7 m 3 (oL j) ((oL j : Int) + mL j) a ((oL j : Int) + i) μ = some (1, μ)) ∧ (¬ mt T a e (pW j) → f_X9_isSame_w7 m 3 (oL j) ((oL j : Int) + mL j) a ((oL j : Int) + i) μ = some (0, μ)) := by
  obtain ⟨h1, h2, h3, h4, h5⟩ := wL_ok j hj
  have hn := h.2.1
  intro d
  induction d with
  | zero =>
    intro m i hi hm hk
    obtain ⟨m, rfl⟩ : ∃ q, m = q + 1 := ⟨m - 1, by omega⟩
    obtain rfl : i = mL j := by omega
    have hmt : mt T a e (pW j) := (mt_c hj).mpr ⟨hl, hk⟩
    refine ⟨fun _ => ?_, fun q => absurd hmt q⟩
    rw [f_X9_isSame_w7, if_pos (Int.le_refl _)]
  | succ d ih =>
    intro m i hi hm hk
    obtain ⟨m, rfl⟩ : ∃ q, m = q + 1 := ⟨m - 1, by omega⟩
    obtain ⟨n32, s0, s1⟩ := h4 i (by omega)
    have hT := h.2.2 (a + i) (by omega) (by omega)
    have eb : bB n T (a + i) = T (a + i) := if_pos (by omega)
    rw [f_X9_isSame_w7, nrm_id (z := (oL j : Int) + (mL j : Nat)) (by omega) (by omega), nrm_id (z := (oL j : Int) + (i : Nat)) (by omega) (by omega), if_neg (by omega), if_neg (by show ¬ ((107 : Int) ≤ _); omega), gd_pos (by omega), show a + ((oL j : Int) + (i : Nat)) - (oL j : Int) = a + i by omega, bn_eq (byteAt_eq h c (by omega) (by omega)), eb, nrm_id (z := sch 0 ((oL j : Int) + (i : Nat))) (by omega) (by omega), nrm_id (z := T (a + i)) (by omega) (by omega)]
    by_cases y : sch 0 ((oL j : Int) + (i : Nat)) = T (a + i)
    · rw [if_pos y, show (oL j : Int) + (i : Nat) + 1 = (oL j : Int) + ((i + 1 : Nat) : Int) by omega]
      refine ih m (i + 1) (by omega) (by omega) (fun k hk2 => ?_)
      by_cases q : k = i
      · rw [q]; exact y
      · exact hk k (by omega)
    · rw [if_neg y]
      refine ⟨fun q => absurd (((mt_c hj).mp q).2 i (by omega)) y, fun _ => rfl⟩
def fW (T : Int → Int) (a e : Int) (j : Nat) (f : Int) : Prop := (∃ k : Nat, k < j ∧ mt T a e (pW k) ∧ f = 128 + k) ∨ (f = 3 ∧ ∀ k : Nat, k < j → ¬ mt T a e (pW k))
theorem w42_skip {j : Nat} (hj : j < 22) {a e f x5 : Int} {μ : Mem} : ∀ (d m i : Nat), i + d = mL j → f_X9_takeWord_w42 (m + d) 3 a e f (oL j) x5 ((oL j : Int) + i) μ = f_X9_takeWord_w42 m 3 a e f (oL j) x5 ((oL j : Int) + mL j) μ := by
  obtain ⟨h1, h2, h3, h4, h5⟩ := wL_ok j hj
  intro d
  induction d with
  | zero =>
    intro m i hi
    obtain rfl : i = mL j := by omega
    rfl
  | succ d ih =>
    intro m i hi
    obtain ⟨n32, s0, s1⟩ := h4 i (by omega)
    rw [show m + (d + 1) = (m + d) + 1 by omega, f_X9_takeWord_w42, nrm_id (z := (oL j : Int) + (i : Nat)) (by omega) (by omega), if_neg (by show ¬ ((107 : Int) ≤ _); omega), gd_pos (by omega), nrm_id (z := sch 0 ((oL j : Int) + (i : Nat))) (by omega) (by omega), if_neg (by show ¬ _ = (32 : Int); exact n32)]
    unfold f_X9_takeWord_j99
    rw [show (oL j : Int) + (i : Nat) + 1 = (oL j : Int) + ((i + 1 : Nat) : Int) by omega]
    exact ih m (i + 1) (by omega)
theorem w42_all {n a e s : Int} {T : Int → Int} {μ : Mem} (h : TX n T) (c : TC n T μ) (a0 : 0 ≤ a) (ae : a ≤ e) (en : e ≤ n) (hs : μ 3 6 = s) (s0 : 0 ≤ s) (s9 : s ≤ 900) :
    ∀ (d m j : Nat) (f : Int), j + d = 22 → 107 < m + oL j → fW T a e j f → ∃ f', f_X9_takeWord_w42 m 3 a e f (oL j) (128 + (j : Int)) (oL j) μ = some (e, kpM μ s (pack f' a 0)) ∧ fW T a e 22 f' := by
  have hn := h.2.1
  intro d
  induction d with
  | zero =>
    intro m j f hj hm hf
    obtain rfl : j = 22 := by omega
    have o22 : oL 22 = 107 := by decide
    obtain ⟨m, rfl⟩ : ∃ q, m = q + 1 := ⟨m - 1, by omega⟩
    refine ⟨f, ?_, hf⟩
    rw [f_X9_takeWord_w42, o22, if_pos (by decide), bn_eq (keepT_eq hs s0 s9)]
  | succ d ih =>
    intro m j f hj hm hf
    have hj2 : j < 22 := by omega
    obtain ⟨h1, h2, h3, h4, h5⟩ := wL_ok j hj2
    obtain ⟨q, rfl⟩ : ∃ q, m = q + 1 + mL j := ⟨m - 1 - mL j, by omega⟩
    have sk := w42_skip hj2 (a := a) (e := e) (f := f) (x5 := 128 + (j : Int)) (μ := μ) (mL j) (q + 1) 0 (by omega)
    rw [show (oL j : Int) + ((0 : Nat) : Int) = oL j by omega] at sk
    rw [sk, f_X9_takeWord_w42, nrm_id (z := (oL j : Int) + (mL j : Nat)) (by omega) (by omega), if_neg (by show ¬ ((107 : Int) ≤ _); omega), gd_pos (by omega), h5, if_pos rfl, nrm_id (z := (oL j : Int) + (mL j : Nat) - (oL j : Int)) (by omega) (by omega), nrm_id (z := e - a) (by omega) (by omega)]
    have e1 : ((oL (j + 1) : Nat) : Int) = (oL j : Int) + (mL j : Nat) + 1 := by omega
    have go : ∀ g : Int, fW T a e (j + 1) g → ∃ f', f_X9_takeWord_j90 (f_X9_takeWord_w42 q) 3 a e g (128 + (j : Int)) ((oL j : Int) + (mL j : Nat)) μ = some (e, kpM μ s (pack f' a 0)) ∧ fW T a e 22 f' := by
      intro g hg
      unfold f_X9_takeWord_j90 f_X9_takeWord_j99
      rw [nm_eq, ← e1, show 128 + (j : Int) + 1 = 128 + ((j + 1 : Nat) : Int) by omega]
      exact ih q (j + 1) g (by omega) (by omega) hg
    have keepf : ¬ mt T a e (pW j) → fW T a e (j + 1) f := by
      intro nm'
      rcases hf with ⟨k, k1, k2, k3⟩ | ⟨f1, f2⟩
      · exact .inl ⟨k, by omega, k2, k3⟩
      · refine .inr ⟨f1, fun k hk => ?_⟩
        by_cases z : k = j
        · rw [z]; exact nm'
        · exact f2 k (by omega)
    by_cases z : (oL j : Int) + (mL j : Nat) - (oL j : Int) = e - a
    · rw [if_pos z]
      unfold f_X9_isSame
      have sw := same_w hj2 h c a0 en (by omega) (mL j) FU 0 (by omega) (by unfold FU; omega) (fun k hk => by omega)
      rw [show (oL j : Int) + ((0 : Nat) : Int) = oL j by omega] at sw
      have mx : f_J9_max_7cf53 0 (oL j) μ = some ((oL j : Int), μ) := by
        rw [max_eq μ rfl (nrm_id (by omega) (by omega))]
        by_cases o : (0 : Int) < oL j
        · rw [if_pos o]
        · rw [if_neg o, show (oL j : Int) = 0 by omega]
      rw [bn_eq mx]
      by_cases y : mt T a e (pW j)
      · rw [bn_eq (sw.1 y), if_neg (by decide : ¬ nrm 1 = 0)]
        exact go _ (.inl ⟨j, by omega, y, rfl⟩)
      · rw [bn_eq (sw.2 y), if_pos (by decide : nrm 0 = 0)]
        exact go _ (keepf y)
    · rw [if_neg z]
      exact go _ (keepf (fun q => z (by have := ((mt_c hj2).mp q).1; omega)))
/-- The class's kind of the reference's kind. -/
def cK (K : Int) : Int := if K = 24 then 0 else if K = 25 then 1 else if K = 23 then 2 else if K = 22 then 3 else if K = 21 then 147 else if K = 19 then 148 else if K = 20 then 149 else if K < 19 then 128 + K else sch 1 (K - 30)
theorem cK_p : ∀ j, j < 22 → (128 : Int) + (j : Nat) = cK (pW j : Nat) := by decide +kernel
theorem fW_kw {T : Int → Int} {a e f : Int} (h : fW T a e 22 f) : ∃ K, isKw T a e K ∧ f = cK K ∧ 0 ≤ K ∧ K ≤ 22 := by
  rcases h with ⟨k, k1, k2, k3⟩ | ⟨f1, f2⟩
  · refine ⟨(pW k : Nat), .inl ⟨pW k, (w_same k k1).1, k2, rfl⟩, by rw [k3]; exact cK_p k k1, by omega, by have := (w_same k k1).1; omega⟩
  · refine ⟨22, .inr ⟨rfl, fun j hj => ?_⟩, by rw [f1]; decide, by decide, by decide⟩
    obtain ⟨k, k1, k2⟩ := pW_on j hj
    rw [← k2]
    exact f2 k k1
theorem letters_c {n a : Int} {T : Int → Int} {μ : Mem} (h : TX n T) (c : TC n T μ) : ∀ (d m : Nat) (b : Int), n - b ≤ d → 0 ≤ b → b ≤ n → d < m → f_X9_takeWord_w4 m 3 a b μ = f_X9_takeWord_j29 3 a (rn lt n T b) μ := by
  have h2 := h.2.1
  intro d
  induction d with
  | zero =>
    intro m b hd b0 hb hm
    obtain ⟨m, rfl⟩ : ∃ q, m = q + 1 := ⟨m - 1, by omega⟩
    rw [f_X9_takeWord_w4, c.2.1, nrm_id (z := n) (by omega) (by omega), nrm_id (z := b) (by omega) (by omega), if_pos (by omega), rn_n (by omega)]
  | succ d ih =>
    intro m b hd b0 hb hm
    obtain ⟨m, rfl⟩ : ∃ q, m = q + 1 := ⟨m - 1, by omega⟩
    rw [f_X9_takeWord_w4, c.2.1, nrm_id (z := n) (by omega) (by omega), nrm_id (z := b) (by omega) (by omega)]
    by_cases e : b < n
    · have hT := h.2.2 b b0 e
      have eb : bB n T b = T b := if_pos e
      rw [if_neg (by omega), bn_eq (byteAt_eq h c b0 (by omega)), eb, bn_eq (isLetter_eq μ (by omega) (by omega)), rn_s e]
      by_cases q : lt (T b) = true
      · rw [if_neg (by rw [b01_0, q]; decide), if_pos q, ih m (b + 1) (by omega) (by omega) (by omega) (by omega)]
      · rw [if_pos (by rw [b01_0]; exact Bool.eq_false_iff.mpr q), if_neg q]
    · rw [if_pos (by omega), rn_n (by omega)]
theorem takeWord_eq {n a s : Int} {T : Int → Int} {μ : Mem} (h : TX n T) (c : TC n T μ) (a0 : 0 ≤ a) (an : a < n) (ht : lt (T a) = true) (hs : μ 3 6 = s) (s0 : 0 ≤ s) (s9 : s ≤ 900) : ∃ K, f_X9_takeWord 3 a μ = some (rn lt n T a, kpM μ s (pack (cK K) a 0)) ∧ isKw T a (rn lt n T a) K ∧ 0 ≤ K ∧ K ≤ 22 := by
  have h2 := h.2.1
  have e1 : rn lt n T a = rn lt n T (a + 1) := by rw [rn_s an, if_pos ht]
  have hb := rn_b (P := lt) (T := T) (by omega : a + 1 ≤ n)
  unfold f_X9_takeWord
  rw [nm_eq, letters_c h c (n - (a + 1)).toNat FU (a + 1) (by omega) (by omega) (by omega) (by unfold FU; omega), e1]
  unfold f_X9_takeWord_j29
  obtain ⟨f', y1, y2⟩ := w42_all h c a0 (by omega : a ≤ rn lt n T (a + 1)) hb.2 hs s0 s9 22 FU 0 3 (by omega) (by unfold FU oL wL; decide) (.inr ⟨rfl, fun k hk => by omega⟩)
  obtain ⟨K, z1, z2, z3⟩ := fW_kw y2
  refine ⟨K, ?_, z1, z3⟩
  rw [← z2]
  exact y1
