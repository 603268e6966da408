/-- The class's row of tokens from j on: those of the text from b on. -/
def LsT (n : Int) (T : Int → Int) (μ : Mem) : Nat → Int → Int → Prop
  | 0, j, b => rn ws n T b = n ∧ μ 4 j = pack 0 n 0
  | d + 1, j, b => ∃ a e K V, Tok n T b a e K V ∧ K ≠ 24 ∧ 0 ≤ V ∧ V < 1000 ∧ μ 4 j = pack (cK K) a V ∧ LsT n T μ d (j + 1) e
theorem LsT_co {n : Int} {T : Int → Int} {μ μ' : Mem} : ∀ (d : Nat) (j b : Int), (∀ i, j ≤ i → μ' 4 i = μ 4 i) → LsT n T μ d j b → LsT n T μ' d j b
  | 0, j, b, s, h => ⟨h.1, by rw [s j (Int.le_refl _)]; exact h.2⟩
  | d + 1, j, b, s, h => by
    obtain ⟨a, e, K, V, h1, h2, h3, h4, h5, h6⟩ := h
    exact ⟨a, e, K, V, h1, h2, h3, h4, by rw [s j (Int.le_refl _)]; exact h5, LsT_co d (j + 1) e (fun i hi => s i (by omega)) h6⟩
theorem LsT_ws {n b b' : Int} {T : Int → Int} {μ : Mem} (hr : rn ws n T b = rn ws n T b') : ∀ (d : Nat) (j : Int), LsT n T μ d j b' → LsT n T μ d j b
  | 0, j, h => ⟨by rw [hr]; exact h.1, h.2⟩
  | d + 1, j, h => by
    obtain ⟨a, e, K, V, h1, h2⟩ := h
    exact ⟨a, e, K, V, ⟨by rw [hr]; exact h1.1, h1.2⟩, h2⟩
def FB (μ μ' : Mem) : Prop := ∀ c i, c ≠ 4 → ¬ (c = 3 ∧ i = 6) → μ' c i = μ c i
theorem TC_fb {n : Int} {T : Int → Int} {μ μ' : Mem} (h : TC n T μ) (s : FB μ μ') : TC n T μ' := by
  refine ⟨by rw [s 3 3 (by decide) (by decide)]; exact h.1, by rw [s 3 4 (by decide) (by decide)]; exact h.2.1, fun i i0 i1 => by rw [s 1 i (by decide) (by omega)]; exact h.2.2 i i0 i1⟩
theorem FB_kp {μ : Mem} {s w : Int} : FB μ (kpM μ s w) := by
  intro c i h1 h2
  unfold kpM
  rw [ms_at, if_neg h2, ms_nc h1]
theorem kp_6 {μ : Mem} {s w : Int} : kpM μ s w 3 6 = s + 1 := ms_eq ..
theorem kp_4 {μ : Mem} {s w i : Int} : kpM μ s w 4 i = if i = s then w else μ 4 i := by
  unfold kpM
  rw [ms_nc (by decide)]
  by_cases e : i = s
  · rw [e, ms_eq, if_pos rfl]
  · rw [ms_ni e, if_neg e]
theorem begin_w {n : Int} {T : Int → Int} (h : TX n T) : ∀ (d m : Nat) (x r s : Int) (μ : Mem), n - x ≤ d → 0 ≤ x → x ≤ n → d < m → 0 ≤ r → r + (n - x) ≤ 900 → TC n T μ → μ 3 6 = s → 0 ≤ s → s ≤ x →
    ∃ (μ' : Mem) (q : Nat), f_X9_begin_w33 m 3 x r μ = f_X9_begin_j142 3 μ' ∧ FB μ μ' ∧ (∀ i, i < s → μ' 4 i = μ 4 i) ∧ μ' 3 6 = s + q ∧ s + q ≤ n ∧ LsT n T (kpM μ' (s + q) (pack 0 n 0)) q s x := by
  have h2 := h.2.1
  intro d
  induction d with
  | zero =>
    intro m x r s μ hd x0 xn hm r0 hr c e6 s0 sx
    obtain ⟨m, rfl⟩ : ∃ q, m = q + 1 := ⟨m - 1, by omega⟩
    refine ⟨μ, 0, ?_, fun _ _ _ _ => rfl, fun _ _ => rfl, by omega, by omega, ?_⟩
    · rw [f_X9_begin_w33, c.2.1, nrm_id (z := r) (by omega) (by omega), nrm_id (z := n) (by omega) (by omega), nrm_id (z := x) (by omega) (by omega), if_pos (by omega : n ≤ x)]
      split <;> rfl
    · refine ⟨by rw [rn_n (by omega)]; omega, ?_⟩
      rw [kp_4, if_pos (by omega)]
  | succ d ih =>
    intro m x r s μ hd x0 xn hm r0 hr c e6 s0 sx
    obtain ⟨m, rfl⟩ : ∃ q, m = q + 1 := ⟨m - 1, by omega⟩
    by_cases e : x < n
    · have hT := h.2.2 x x0 e
      have eb : bB n T x = T x := if_pos e
      -- a token kept, and on behind it
      have tk : ∀ (e' K V : Int), Tok n T x x e' K V → K ≠ 24 → 0 ≤ V → V < 1000 → f_X9_begin_w33 (m + 1) 3 x r μ = f_X9_begin_w33 m 3 e' (r + 1) (kpM μ s (pack (cK K) x V)) → ∃ (μ' : Mem) (q : Nat), f_X9_begin_w33 (m + 1) 3 x r μ = f_X9_begin_j142 3 μ' ∧ FB μ μ' ∧ (∀ i, i < s → μ' 4 i = μ 4 i) ∧ μ' 3 6 = s + q ∧ s + q ≤ n ∧ LsT n T (kpM μ' (s + q) (pack 0 n 0)) q s x := by
        intro e' K V ht kn v0 v1 hu
        obtain ⟨_, t2, t3, t4, t5, t6, _⟩ := Tok_in h x0 xn ht
        have t7 := t6 kn
        obtain ⟨μ', q, y1, y2, y3, y4, y5, y6⟩ := ih m e' (r + 1) (s + 1) _ (by omega) (by omega) (by omega) (by omega) (by omega) (by omega) (TC_fb c FB_kp) kp_6 (by omega) (by omega)
        refine ⟨μ', q + 1, by rw [hu]; exact y1, fun c i h1 h2 => (y2 c i h1 h2).trans (FB_kp c i h1 h2), fun i hi => ?_, by omega, by omega, ?_⟩
        · rw [y3 i (by omega), kp_4, if_neg (by omega)]
        · refine ⟨x, e', K, V, ht, kn, v0, v1, ?_, ?_⟩
          · rw [kp_4, if_neg (by omega), y3 s (by omega), kp_4, if_pos rfl]
          · rw [show s + ((q + 1 : Nat) : Int) = s + 1 + q by omega]
            exact y6
      have hh : f_X9_begin_w33 (m + 1) 3 x r μ = if T x = 10 then f_X9_begin_w33 m 3 (x + 1) (r + 1) μ else if T x = 32 then f_X9_begin_w33 m 3 (x + 1) (r + 1) μ else if lt (T x) = true then (bn (f_X9_takeWord 3 x μ) fun r22 μ21 => f_X9_begin_w33 m 3 r22 (r + 1) μ21) else if dg (T x) = true then (bn (f_X9_takeDigits 3 x μ) fun r19 μ18 => f_X9_begin_w33 m 3 r19 (r + 1) μ18) else f_X9_begin_w33 m 3 (x + 1) (r + 1) (kpM μ s (pack (cK (sgK (T x))) x 0)) := by
        obtain ⟨_, g2, g3, g4, g5⟩ := sg_is hT.1 hT.2
        rw [f_X9_begin_w33, c.2.1, nrm_id (z := r) (by omega) (by omega), nrm_id (z := n) (by omega) (by omega), nrm_id (z := x) (by omega) (by omega), if_neg (by show ¬ ((900 : Int) ≤ r); omega), if_neg (by omega), bn_eq (byteAt_eq h c x0 (by omega)), eb, nrm_id (z := T x) (by omega) (by omega), show nrm 10 = 10 from rfl, show nrm 32 = 32 from rfl]
        unfold f_X9_begin_j70 f_X9_begin_j128 f_X9_begin_j136
        by_cases z1 : T x = 10
        · rw [if_pos z1, if_pos z1]
        · rw [if_neg z1, if_neg z1]
          by_cases z2 : T x = 32
          · rw [if_pos z2, if_pos z2]
          · rw [if_neg z2, if_neg z2, bn_eq (isLetter_eq μ (by omega) (by omega))]
            by_cases z3 : lt (T x) = true
            · rw [if_neg (by rw [b01_0, z3]; decide), if_pos z3]
            · rw [if_pos (by rw [b01_0]; exact Bool.eq_false_iff.mpr z3), if_neg z3, bn_eq (isDigit_eq μ (by omega) (by omega))]
              by_cases z4 : dg (T x) = true
              · rw [if_neg (by rw [b01_0, z4]; decide), if_pos z4]
              · rw [if_pos (by rw [b01_0]; exact Bool.eq_false_iff.mpr z4), if_neg z4, g4, gd_pos (by omega), g5, gd_pos kk_3, gd_pos kk_3, g2]
                by_cases z5 : six 1 (T x) < 0
                · rw [if_pos z5, if_pos z5, bn_eq (keepT_eq e6 s0 (by omega))]
                · rw [if_neg z5, if_neg z5, bn_eq (keepT_eq e6 s0 (by omega))]
      by_cases w : ws (T x) = true
      · have hu : f_X9_begin_w33 (m + 1) 3 x r μ = f_X9_begin_w33 m 3 (x + 1) (r + 1) μ := by
          rw [hh]
          by_cases z1 : T x = 10
          · rw [if_pos z1]
          · rw [if_neg z1, if_pos (by have := of_decide_eq_true w; omega)]
        obtain ⟨μ', q, y1, y2, y3, y4, y5, y6⟩ := ih m (x + 1) (r + 1) s μ (by omega) (by omega) (by omega) (by omega) (by omega) (by omega) c e6 s0 (by omega)
        exact ⟨μ', q, by rw [hu]; exact y1, y2, y3, y4, y5, LsT_ws (by rw [rn_s e, if_pos w]) q s y6⟩
      · have n1 : ¬ T x = 10 := fun q => w (decide_eq_true (.inl q))
        have n2 : ¬ T x = 32 := fun q => w (decide_eq_true (.inr q))
        have er : x = rn ws n T x := by rw [rn_s e, if_neg w]
        rw [if_neg n1, if_neg n2] at hh
        by_cases z3 : lt (T x) = true
        · rw [if_pos z3] at hh
          obtain ⟨K, k1, k2, k3, k4⟩ := takeWord_eq h c x0 e z3 e6 s0 (by omega)
          rw [bn_eq k1] at hh
          exact tk _ K 0 ⟨er, .inr (.inl ⟨e, z3, rfl, k2⟩)⟩ (by omega) (by omega) (by omega) hh
        · have z3' := Bool.eq_false_iff.mpr z3
          rw [if_neg z3] at hh
          by_cases z4 : dg (T x) = true
          · rw [if_pos z4] at hh
            have i0 : nuI x x 0 := ⟨by omega, by omega, .inl ⟨rfl, rfl⟩⟩
            have nb := nu_in (n := n) (T := T) (a := x) (n - x).toNat x 0 (by omega) i0
            have rb := rn_b (P := dg) (T := T) (by omega : x ≤ n)
            have hd2 : f_X9_takeDigits 3 x μ = some (rn dg n T x, kpM μ s (pack (cK (if rn dg n T x - x ≤ 3 then 23 else 25)) x (if rn dg n T x - x ≤ 3 then nu n T x x 0 else 0))) := by
              unfold f_X9_takeDigits
              rw [digits_c h c x0 (n - x).toNat FU x 0 (by omega) (by omega) (by unfold FU; omega) i0]
              unfold f_X9_takeDigits_j50
              rw [show nrm 3 = 3 from rfl, nrm_id (z := rn dg n T x - x) (by omega) (by omega)]
              by_cases y : rn dg n T x - x ≤ 3
              · rw [if_neg (by omega), if_pos y, if_pos y]
                unfold f_X9_takeDigits_j62
                rw [if_neg (by decide : ¬ nrm 1 = 0)]
                unfold f_X9_takeDigits_j75
                rw [if_neg (by decide : ¬ nrm 1 = 0)]
                unfold f_X9_takeDigits_j86
                rw [gd_pos kk_3, bn_eq (keepT_eq e6 s0 (by omega))]
                rfl
              · rw [if_pos (by omega), if_neg y, if_neg y]
                unfold f_X9_takeDigits_j62
                rw [if_pos (by decide : nrm 0 = 0)]
                unfold f_X9_takeDigits_j75
                rw [if_pos (by decide : nrm 0 = 0)]
                unfold f_X9_takeDigits_j86
                rw [gd_pos kk_3, bn_eq (keepT_eq e6 s0 (by omega))]
                rfl
            rw [bn_eq hd2] at hh
            refine tk _ _ _ ⟨er, .inr (.inr (.inl ⟨e, z3', z4, rfl, rfl, fun z => ?_⟩))⟩ ?_ ?_ ?_ hh
            · by_cases y : rn dg n T x - x ≤ 3
              · rw [if_pos y]
              · rw [if_neg y] at z; omega
            · split <;> decide
            · split <;> omega
            · split <;> omega
          · have z4' := Bool.eq_false_iff.mpr z4
            rw [if_neg z4] at hh
            have := (sg_is hT.1 hT.2).2.2.1
            exact tk _ _ 0 ⟨er, .inr (.inr (.inr ⟨e, z3', z4', rfl, rfl⟩))⟩ (by omega) (by omega) (by omega) hh
    · refine ⟨μ, 0, ?_, fun _ _ _ _ => rfl, fun _ _ => rfl, by omega, by omega, ?_⟩
      · rw [f_X9_begin_w33, c.2.1, nrm_id (z := r) (by omega) (by omega), nrm_id (z := n) (by omega) (by omega), nrm_id (z := x) (by omega) (by omega), if_pos (by omega : n ≤ x)]
        split <;> rfl
      · refine ⟨by rw [rn_n (by omega)]; omega, ?_⟩
        rw [kp_4, if_pos (by omega)]
def kOk (K : Int) : Prop := 0 ≤ K ∧ K ≤ 41 ∧ (K ≤ 25 ∨ 30 ≤ K)
theorem Tok_k {n b a e K V : Int} {T : Int → Int} (h : TX n T) (b0 : 0 ≤ b) (hb : b ≤ n) (x : Tok n T b a e K V) : kOk K := by
  obtain ⟨t1, t2, t3, t4, t5, _⟩ := Tok_in h b0 hb x
  refine ⟨t4, t5, ?_⟩
  rcases x.2 with ⟨p1, p2, p3⟩ | ⟨p1, p2, p3, p4⟩ | ⟨p1, p2, p3, p4, p5, p6⟩ | ⟨p1, p2, p3, p4, p5⟩
  · omega
  · have := Kw_in p4; omega
  · have e3 : K = 23 ∨ K = 25 := by rw [p5]; split <;> simp
    omega
  · have := (sg_is (h.2.2 a (by omega) p1).1 (h.2.2 a (by omega) p1).2).2.2.1
    omega
/-- Class and reference stand at the same token. -/
def PS (n : Int) (T : Int → Int) (μ ρ : Mem) (a K V : Int) : Prop := TX n T ∧ TM n T ρ ∧ (0 ≤ a ∧ a ≤ n ∧ μ 2 2 = 0 ∧ μ 2 3 = -1) ∧ kOk K ∧ μ 3 0 = cK K ∧ μ 3 1 = a ∧ (K = 23 → μ 3 2 = V ∧ ρ 111 10 = V ∧ 0 ≤ V ∧ V ≤ 999) ∧ ρ 111 6 = a ∧ ρ 111 9 = K ∧
  (K ≠ 24 → ∃ (d : Nat) (j e : Int), a < e ∧ e ≤ n ∧ ρ 111 7 = e ∧ μ 3 7 = j ∧ 0 ≤ j ∧ j ≤ 900 ∧ μ 3 6 = j + d + 1 ∧ μ 3 6 ≤ 901 ∧ LsT n T μ d j e)
/-- What advance changes. -/
def FA (μ μ' : Mem) : Prop := ∀ c i, ¬ (c = 3 ∧ (i = 0 ∨ i = 1 ∨ i = 2 ∨ i = 7)) → μ' c i = μ c i
def adM (μ : Mem) (k a v j : Int) : Mem := ms (ms (ms (ms μ 3 0 k) 3 1 a) 3 2 v) 3 7 (j + 1)
theorem FA_ad {μ : Mem} {k a v j : Int} : FA μ (adM μ k a v j) := by
  intro c i e
  unfold adM
  rw [ms_at, if_neg (by omega), ms_at, if_neg (by omega), ms_at, if_neg (by omega), ms_at, if_neg (by omega)]
theorem advance_eq {k a v j : Int} {μ : Mem} (h7 : μ 3 7 = j) (j0 : 0 ≤ j) (j9 : j ≤ 900) (h6 : j < μ 3 6) (h69 : μ 3 6 ≤ 901) (hp : μ 4 j = pack k a v) (k0 : 0 ≤ k) (k1 : k < 256) (a0 : 0 ≤ a) (a1 : a < 1024) (v0 : 0 ≤ v) (v1 : v < 1000) : f_X9_advance 3 μ = some (0, adM μ k a v j) := by
  obtain ⟨u1, u2, u3⟩ := unpack k0 k1 a0 a1 v0 v1
  have g1 : ms μ 3 0 k 3 7 = j := by rw [ms_ni (by decide)]; exact h7
  have p1 : ms μ 3 0 k 4 j = pack k a v := by rw [ms_nc (by decide)]; exact hp
  have g2 : ms (ms μ 3 0 k) 3 1 a 3 7 = j := by rw [ms_ni (by decide)]; exact g1
  have p2 : ms (ms μ 3 0 k) 3 1 a 4 j = pack k a v := by rw [ms_nc (by decide)]; exact p1
  have g3 : ms (ms (ms μ 3 0 k) 3 1 a) 3 2 v 3 7 = j := by rw [ms_ni (by decide)]; exact g2
  have nj : nrm j = j := nrm_id (by omega) (by omega)
  unfold f_X9_advance adM
  rw [h7, nj, nrm_id (z := μ 3 6) (by omega) (by omega), if_neg (by omega), if_neg (by omega), if_neg (by show ¬ ((901 : Int) ≤ j); omega), gd_pos (by omega), show (3 + 1 : Int) = 4 from rfl, hp, u1, nm_eq, g1, nj, gd_pos (by omega), p1, u2, nm_eq, g2, nj, gd_pos (by omega), p2, u3, nm_eq, g3, nm_eq]
theorem LsT_PS {n j b : Int} {T : Int → Int} {μ ρ : Mem} (h : TX n T) (c : TM n T ρ) (b0 : 0 ≤ b) (hb : b ≤ n) (e7 : ρ 111 7 = b) (h7 : μ 3 7 = j) (j0 : 0 ≤ j) (j9 : j ≤ 900) {d : Nat} (h6 : μ 3 6 = j + d + 1) (h69 : μ 3 6 ≤ 901) (hl : LsT n T μ d j b) (f2 : μ 2 2 = 0) (f3 : μ 2 3 = -1) :
    ∃ μ' ρ' a K V, f_X9_advance 3 μ = some (0, μ') ∧ f_X12_next 111 ρ = some (0, ρ') ∧ FA μ μ' ∧ FN ρ ρ' ∧ b ≤ a ∧ PS n T μ' ρ' a K V := by
  have h2 := h.2.1
  obtain ⟨ρ', a, e, K, V, n1, n2, n3, n4, n5, n6, n7⟩ := next_m h b0 hb c e7
  obtain ⟨t1, t2, t3, t4, t5, t6, t7, t8⟩ := Tok_in h b0 hb n3
  cases d with
  | zero =>
    obtain ⟨l1, l2⟩ := hl
    have hK : K = 24 ∧ a = n := by
      have e1 : a = n := by rw [n3.1, l1]
      rcases n3.2 with ⟨_, _, p3⟩ | ⟨p1, _⟩ | ⟨p1, _⟩ | ⟨p1, _⟩
      · exact ⟨p3, e1⟩
      · omega
      · omega
      · omega
    have ad := advance_eq (k := 0) (a := n) (v := 0) h7 j0 j9 (by omega) h69 l2 (by omega) (by omega) h.1 (by omega) (by omega) (by omega)
    refine ⟨_, ρ', a, K, V, ad, n1, FA_ad, n2, t1, h, TM_fn c n2, ⟨by omega, by omega, by rw [FA_ad 2 2 (by decide)]; exact f2, by rw [FA_ad 2 3 (by decide)]; exact f3⟩, Tok_k h b0 hb n3, ?_, ?_, fun z => by omega, n4, n6, fun z => by omega⟩
    · unfold adM
      rw [ms_ni (by decide), ms_ni (by decide), ms_ni (by decide), ms_eq, hK.1]
      decide
    · unfold adM
      rw [ms_ni (by decide), ms_ni (by decide), ms_eq]
      omega
  | succ d =>
    obtain ⟨a', e', K', V', x1, x2, x3, x4, x5, x6⟩ := hl
    obtain ⟨o1, o2, o3, o4⟩ := Tok_one h b0 hb n3 x1
    subst o1; subst o2; subst o3
    have ck := cK_in t4 t5
    have ad := advance_eq h7 j0 j9 (by omega) h69 x5 ck.1 ck.2 (by omega) (by omega) x3 x4
    refine ⟨_, ρ', a, K, V', ad, n1, FA_ad, n2, t1, h, TM_fn c n2, ⟨by omega, by omega, by rw [FA_ad 2 2 (by decide)]; exact f2, by rw [FA_ad 2 3 (by decide)]; exact f3⟩, Tok_k h b0 hb n3, ?_, ?_, fun z => ⟨?_, ?_, by omega, by omega⟩, n4, n6, fun _ => ⟨d, j + 1, e, (t6 x2).2, t3, n5, ?_, by omega, by omega, ?_, ?_, ?_⟩⟩
    · unfold adM
      rw [ms_ni (by decide), ms_ni (by decide), ms_ni (by decide), ms_eq]
    · unfold adM
      rw [ms_ni (by decide), ms_ni (by decide), ms_eq]
    · unfold adM
      rw [ms_ni (by decide), ms_eq]
    · rw [n7 z, o4 z]
    · unfold adM; rw [ms_eq]
    · rw [FA_ad 3 6 (by decide), h6]; omega
    · rw [FA_ad 3 6 (by decide)]; exact h69
    · exact LsT_co d _ _ (fun i _ => FA_ad 4 i (by omega)) x6
theorem step {n a K V : Int} {T : Int → Int} {μ ρ : Mem} (h : PS n T μ ρ a K V) (hK : K ≠ 24) : ∃ μ' ρ' a' K' V', f_X9_advance 3 μ = some (0, μ') ∧ f_X12_next 111 ρ = some (0, ρ') ∧ FA μ μ' ∧ FN ρ ρ' ∧ a < a' ∧ PS n T μ' ρ' a' K' V' := by
  obtain ⟨h1, h2, h3, h4, h5, h6, h7, h8, h9, h10⟩ := h
  obtain ⟨d, j, e, e1, e2, e3, e4, e5, e6, e7, e8, e9⟩ := h10 hK
  obtain ⟨μ', ρ', a', K', V', y1, y2, y3, y4, y5, y6⟩ := LsT_PS h1 h2 (by omega) e2 e3 e4 e5 e6 e7 e8 e9 h3.2.2.1 h3.2.2.2
  exact ⟨μ', ρ', a', K', V', y1, y2, y3, y4, by omega, y6⟩
