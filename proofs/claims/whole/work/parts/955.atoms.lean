def Mv (n : Int) (T : Int → Int) (La w a N : Int) (ρ μ' ρ' : Mem) : Prop := ∃ a' K' V', a + 1 ≤ a' ∧ ES n T La w μ' ρ' a' K' V' N ∧ ∀ i, ρ' 115 i = ρ 115 i
theorem ES_take {n La w a K V N k ck : Int} {T : Int → Int} {μ ρ : Mem} (h : ES n T La w μ ρ a K V N) (hk : kOk k) (k24 : k ≠ 24) (hck : nrm ck = cK k) : ∃ r μ' ρ', f_X7_take 2 ck μ = some (r, μ') ∧ (∀ C : Mem → Option (Int × Mem), (bn (f_X12_eats 111 k ρ) fun r ρ1 => (if nrm r = 0 then (bn (f_X12_fails 111 2 ρ1) fun _ ρ2 => C ρ2) else C ρ1)) = C ρ') ∧ FrE La μ μ' ∧ FrS ρ ρ' ∧ ((r = 1 ∧ K = k ∧ Mv n T La w a N ρ μ' ρ') ∨ (r = 0 ∧ Bd μ' ρ')) := by
  have hc := ES_c h hk
  have hi := ES_is h hk
  unfold f_X7_take f_X12_eats
  rw [show (2 + 1 : Int) = 3 from rfl, hck]
  by_cases z : K = k
  · obtain ⟨μ', ρ', a', K', V', y1, y2, y3, y4, y5, y6, y7⟩ := ES_step h (by omega : K ≠ 24)
    rw [if_pos z] at hi
    refine ⟨1, μ', ρ', by rw [if_pos (hc.mpr z), bn_eq y1], fun C => ?_, y3, y4, .inl ⟨rfl, z, a', K', V', y6, y7, y5⟩⟩
    rw [bn_eq hi, if_neg (by decide : ¬ nrm 1 = 0), bn_eq y2, bn_eq rfl, if_neg (by decide : ¬ nrm 1 = 0)]
  · obtain ⟨μ', ρ', y1, y2, y3, y4, y5⟩ := ES_bad h (x := 2) (by decide) (by decide)
    rw [if_neg z] at hi
    refine ⟨0, μ', ρ', by rw [if_neg (fun q => z (hc.mp q)), bn_eq y1, gd_pos (by decide : isB 0)], fun C => ?_, y3, y4, .inr ⟨rfl, y5⟩⟩
    rw [bn_eq hi, if_pos (by decide : nrm 0 = 0), bn_eq rfl, if_pos (by decide : nrm 0 = 0), bn_eq y2]
theorem eats_C {k : Int} {ρ : Mem} (h : 1 ≤ ρ 111 11) (h4 : ρ 111 11 ≤ 4) (C : Mem → Option (Int × Mem)) : (bn (f_X12_eats 111 k ρ) fun r ρ1 => (if nrm r = 0 then (bn (f_X12_fails 111 2 ρ1) fun _ ρ2 => C ρ2) else C ρ1)) = C ρ := by
  rw [bn_eq (eats_no h h4), if_pos (by decide : nrm 0 = 0), bn_eq (fails_no h h4)]
theorem ES_open {n La w a K V N : Int} {T : Int → Int} {μ ρ : Mem} {d : Nat} (h : ES n T La w μ ρ a K V N) (hd : d ≤ 6) (hK : K ≠ 24) : ∃ r μ' ρ', f_X7_takeOpening 2 d μ = some (r, μ') ∧ f_X12_goesIn 111 d ρ = some (r, ρ') ∧ FrE La μ μ' ∧ FrS ρ ρ' ∧ ((r = 1 ∧ d < 6 ∧ Mv n T La w a N ρ μ' ρ') ∨ (r = 0 ∧ Bd μ' ρ')) := by
  unfold f_X7_takeOpening f_X12_goesIn f_X12_goesIn_j11 f_X12_goesIn_j22
  rw [nrm_id (z := (d : Int)) (by omega) (by omega), show nrm 6 = 6 from rfl, show (2 + 1 : Int) = 3 from rfl]
  by_cases z : (d : Int) < 6
  · obtain ⟨μ', ρ', a', K', V', y1, y2, y3, y4, y5, y6, y7⟩ := ES_step h hK
    refine ⟨1, μ', ρ', by rw [if_pos z, bn_eq y1], ?_, y3, y4, .inl ⟨rfl, by omega, a', K', V', y6, y7, y5⟩⟩
    rw [if_neg (by omega), h.2.1, if_pos (by decide : nrm 0 = 0), bn_eq y2, y7.2.1, if_pos (by decide : nrm 0 = 0)]
  · obtain ⟨μ', ρ', y1, y2, y3, y4, y5⟩ := ES_bad h (x := 4) (by decide) (by decide)
    refine ⟨0, μ', ρ', by rw [if_neg z, bn_eq y1, gd_pos (by decide : isB 0)], ?_, y3, y4, .inr ⟨rfl, y5⟩⟩
    have w1 := y5.1
    have w2 := y5.2.1
    rw [if_pos (by omega), bn_eq y2, nrm_id (z := ρ' 111 11) (by omega) (by omega), if_neg (by omega), if_neg (by omega)]
theorem ES_atom {n La w a K V N c x y : Int} {T : Int → Int} {B : Nat} {μ ρ : Mem} (h : ES n T La w μ ρ a K V N) (hK : K ≠ 24) (hc : x * 1000 + y = phi c) (hB : 1 ≤ B) (ht : ∀ s : List Bool, s.length < 64 → tyS w c s = some (false :: s)) :
    ∃ μ' ρ', f_X7_addAtom 2 x y μ = some (1, μ') ∧ (bn (f_X12_codes 111 c ρ) fun _ ρ1 => (bn (f_X12_next 111 ρ1) fun _ ρ2 => some ((0 : Int), ρ2))) = some (0, ρ') ∧ FrE La μ μ' ∧ FrS ρ ρ' ∧ Gd n T La w N a B false ρ μ' ρ' := by
  have hL := h.2.2.2.1
  have na := h.2.2.2.2.2.2.2.2.1
  have n0 := h.2.2.2.2.2.2.2.1
  obtain ⟨μ1, ρ1, c1, c2, c3, c4, c5, c6, _, c8, c9⟩ := ES_code (c := c) (x := x) (y := y) h (.inr ⟨na, hK⟩) hc
  obtain ⟨μ', ρ', a', K', V', y1, y2, y3, y4, y5, y6⟩ := step c8 hK
  have e115 : ∀ i, ρ' 115 i = ρ1 115 i := fun i => y4 115 i (by omega)
  refine ⟨μ', ρ', ?_, ?_, FrE_tr c3 (FrE_a y3), FrS_tr c4 (FrS_n y4), a', K', V', N + 1, c9 a' K' V' μ' ρ' (by omega) y6 y3 y4, by omega, by omega, fun j j0 j1 => by rw [e115, c5 j j0 j1], fun s hs => ?_⟩
  · unfold f_X7_addAtom
    rw [h.2.2.1, gd_pos (isL_k hL), bn_eq c1, show (2 + 1 : Int) = 3 from rfl, bn_eq y1]
  · rw [bn_eq c2, bn_eq y2]
  · refine ty_one ?_
    show tyS w (ρ' 115 (200 + N)) s = _
    rw [e115, c6]
    exact ht s (by omega)
def wdM (w K : Int) : Int := if K = 2 then 0 else if K = 3 then 1 else if K = 4 then 2 else if K = 8 then 3 else if K = 11 then (if w = 1 then 5 else -1) else if K = 12 then 4 else -1
theorem wordOf_eq {w K : Int} {ρ : Mem} (hk : kOk K) (hw : ρ 111 15 = w) (w01 : w = 0 ∨ w = 1) : f_X12_wordOf 111 K ρ = some (wdM w K, ρ) := by
  unfold f_X12_wordOf wdM
  rw [nrm_id (z := K) (by have := hk.1; omega) (by have := hk.2.1; omega), hw]
  have hw1 : nrm w = nrm 1 ↔ w = 1 := by rcases w01 with q | q <;> rw [q] <;> decide
  by_cases z1 : K = 2
  · rw [if_pos z1, if_pos z1]
  · rw [if_neg z1, if_neg z1]
    by_cases z2 : K = 3
    · rw [if_pos z2, if_pos z2]
    · rw [if_neg z2, if_neg z2]
      by_cases z3 : K = 4
      · rw [if_pos z3, if_pos z3]
      · rw [if_neg z3, if_neg z3]
        by_cases z4 : K = 8
        · rw [if_pos z4, if_pos z4]
        · rw [if_neg z4, if_neg z4]
          by_cases z5 : K = 11
          · rw [if_pos z5, if_pos z5]
            by_cases q : w = 1
            · rw [if_pos (hw1.mpr q), if_pos q]
            · rw [if_neg (fun p => q (hw1.mp p)), if_neg q]
          · rw [if_neg z5, if_neg z5]
            by_cases z6 : K = 12
            · rw [if_pos z6, if_pos z6]
            · rw [if_neg z6, if_neg z6]
theorem rd0 {n La w : Int} {T : Int → Int} {B BS : Nat} {rC rR : Nat → Int → Int → Mem → Option (Int × Mem)} {d : Nat} (hd : d ≤ 6) (hB : 1 ≤ B) (hBS : d < 6 → BS ≤ B)
    (hS : d < 6 → ∀ μ ρ a K V N, ES n T La w μ ρ a K V N → Res n T La w N a BS false μ ρ (rC 3 2 ((d : Int) + 1) μ) (rR 3 111 ((d : Int) + 1) ρ))
    (hI : ∀ μ ρ a V N, ES n T La w μ ρ a 15 V N → Res n T La w N a B false μ ρ (rC 2 2 d μ) (rR 2 111 d ρ)) {μ ρ : Mem} {a K V N : Int} (hE : ES n T La w μ ρ a K V N) :
    Res n T La w N a B false μ ρ (b_X7_readAtom rC 2 d μ) (b_X12_readAtom rR 111 d ρ) := by
  have pk := hE.1.2.2.2.1
  have e9 := hE.1.2.2.2.2.2.2.2.2.1
  have e11 := hE.2.1
  have w15 := hE.2.2.2.2.1
  have w5 := hE.2.2.2.2.2.1
  have w01 := hE.2.2.2.2.2.2.1
  have wo := wordOf_eq pk w15 w01
  have t : ∀ k : Int, kOk k → (nrm (μ 3 0) = cK k ↔ K = k) := fun k hk => ES_c hE hk
  have t1 : nrm (μ 3 0) = 2 ↔ K = 23 := t 23 (by unfold kOk; decide)
  have t2 : nrm (μ 3 0) = 40 ↔ K = 35 := t 35 (by unfold kOk; decide)
  have t3 : nrm (μ 3 0) = 130 ↔ K = 2 := t 2 (by unfold kOk; decide)
  have t4 : nrm (μ 3 0) = 131 ↔ K = 3 := t 3 (by unfold kOk; decide)
  have t5 : nrm (μ 3 0) = 132 ↔ K = 4 := t 4 (by unfold kOk; decide)
  have t6 : nrm (μ 3 0) = 136 ↔ K = 8 := t 8 (by unfold kOk; decide)
  have t7 : nrm (μ 3 0) = 139 ↔ K = 11 := t 11 (by unfold kOk; decide)
  have t8 : nrm (μ 3 0) = 140 ↔ K = 12 := t 12 (by unfold kOk; decide)
  have t9 : nrm (μ 3 0) = 143 ↔ K = 15 := t 15 (by unfold kOk; decide)
  have i23 := ES_is hE (k := 23) (by unfold kOk; decide)
  have i35 := ES_is hE (k := 35) (by unfold kOk; decide)
  have i15 := ES_is hE (k := 15) (by unfold kOk; decide)
  have o11 : nrm (ρ 111 11) = 0 := by rw [e11]; decide
  unfold b_X7_readAtom b_X12_readAtom
  rw [show (2 + 1 : Int) = 3 from rfl]
  -- a word
  have word : ∀ i : Int, 0 ≤ i → i ≤ 4 + w → wdM w K = i → K ≠ 23 → K ≠ 24 → Res n T La w N a B false μ ρ (bn (f_X7_addAtom 2 1 i μ) fun r μ2 => (gd (isB r) (some (r, μ2)))) (bn (f_X12_is 111 23 ρ) fun r2 μ1 => (if nrm r2 = 0 then (if nrm (μ1 111 11) = 0 then (bn (f_X12_wordOf 111 (μ1 111 9) μ1) fun r7 μ6 => (if nrm r7 = nrm (-1) then (f_X12_readAtom_j66 rR 111 d μ6) else (bn (f_X12_wordOf 111 (μ6 111 9) μ6) fun r11 μ10 => (bn (f_X12_codes 111 (1000 + r11) μ10) fun r14 μ13 => (bn (f_X12_next 111 μ13) fun r17 μ16 => (some (0, μ16))))))) else (f_X12_readAtom_j66 rR 111 d μ1)) else (bn (f_X12_codes 111 (μ1 111 10) μ1) fun r20 μ19 => (bn (f_X12_next 111 μ19) fun r23 μ22 => (some (0, μ22)))))) := by
    intro i i0 i5 hw nk nk2
    obtain ⟨μ', ρ', y1, y2, y3, y4, y5⟩ := ES_atom (c := 1000 + i) (x := 1) (y := i) (B := B) hE nk2 (by unfold phi; rw [if_pos (by omega)]; omega) hB (fun s hs => by unfold tyS; rw [if_pos (by omega), if_pos hs])
    rw [if_neg nk] at i23
    refine ⟨1, μ', ρ', by rw [bn_eq y1, gd_pos (by decide : isB 1)], ?_, y3, y4, .inl ⟨rfl, y5⟩⟩
    rw [bn_eq i23, if_pos (by decide : nrm 0 = 0), if_pos o11, e9, bn_eq wo, hw, nrm_id (z := i) (by omega) (by omega), if_neg (by show ¬ i = -1; omega), e9, bn_eq wo, hw, y2]
  -- no word
  have nowd : wdM w K = -1 → K ≠ 23 → (bn (f_X12_is 111 23 ρ) fun r2 μ1 => (if nrm r2 = 0 then (if nrm (μ1 111 11) = 0 then (bn (f_X12_wordOf 111 (μ1 111 9) μ1) fun r7 μ6 => (if nrm r7 = nrm (-1) then (f_X12_readAtom_j66 rR 111 d μ6) else (bn (f_X12_wordOf 111 (μ6 111 9) μ6) fun r11 μ10 => (bn (f_X12_codes 111 (1000 + r11) μ10) fun r14 μ13 => (bn (f_X12_next 111 μ13) fun r17 μ16 => (some (0, μ16))))))) else (f_X12_readAtom_j66 rR 111 d μ1)) else (bn (f_X12_codes 111 (μ1 111 10) μ1) fun r20 μ19 => (bn (f_X12_next 111 μ19) fun r23 μ22 => (some (0, μ22)))))) = f_X12_readAtom_j66 rR 111 d ρ := by
    intro hw nk
    rw [if_neg nk] at i23
    rw [bn_eq i23, if_pos (by decide : nrm 0 = 0), if_pos o11, e9, bn_eq wo, hw, if_pos rfl]
  -- refused
  have bad : wdM w K = -1 → K ≠ 23 → K ≠ 35 → K ≠ 15 → Res n T La w N a B false μ ρ (bn (f_X7_refuse 2 2 μ) fun r μ2 => (gd (isB r) (some (r, μ2)))) (f_X12_readAtom_j66 rR 111 d ρ) := by
    intro _ _ n35 n15
    obtain ⟨μ', ρ', y1, y2, y3, y4, y5⟩ := ES_bad hE (x := 2) (by decide) (by decide)
    rw [if_neg n35] at i35
    rw [if_neg n15] at i15
    refine ⟨0, μ', ρ', by rw [bn_eq y1, gd_pos (by decide : isB 0)], ?_, y3, y4, .inr ⟨rfl, y5⟩⟩
    unfold f_X12_readAtom_j66
    rw [bn_eq i35, if_pos (by decide : nrm 0 = 0), bn_eq i15, if_pos (by decide : nrm 0 = 0), bn_eq y2]
  by_cases z1 : K = 23
  · obtain ⟨v1, v2, v3, v4⟩ := hE.1.2.2.2.2.2.2.1 z1
    obtain ⟨μ', ρ', y1, y2, y3, y4, y5⟩ := ES_atom (c := V) (x := 0) (y := V) (B := B) hE (by omega) (by unfold phi; rw [if_pos (by omega)]; omega) hB (fun s hs => by unfold tyS; rw [if_pos (by omega), if_pos hs])
    rw [if_pos z1] at i23
    refine ⟨1, μ', ρ', by rw [if_pos (t1.mpr z1), v1, bn_eq y1, gd_pos (by decide : isB 1)], ?_, y3, y4, .inl ⟨rfl, y5⟩⟩
    rw [bn_eq i23, if_neg (by decide : ¬ nrm 1 = 0), v2, y2]
  · rw [if_neg (fun q => z1 (t1.mp q))]
    by_cases z2 : K = 35
    · rw [if_pos (t2.mpr z2)]
      have hw : wdM w K = -1 := by rw [z2]; rfl
      rw [nowd hw z1]
      unfold f_X12_readAtom_j66
      rw [if_pos z2] at i35
      rw [bn_eq i35, if_neg (by decide : ¬ nrm 1 = 0)]
      obtain ⟨r, μ1, ρ1, r1, r2, r3, r4, r5⟩ := ES_open hE hd (by omega : K ≠ 24)
      rw [bn_eq r1, bn_eq r2]
      rcases r5 with ⟨rfl, d6, a1, K1, V1, m1, m2, m3⟩ | ⟨rfl, hb⟩
      · rw [if_neg (by decide : ¬ nrm 1 = 0), if_neg (by decide : ¬ nrm 1 = 0)]
        obtain ⟨r', μ2, ρ2, q1, q2, q3, q4, q5⟩ := hS d6 μ1 ρ1 a1 K1 V1 N m2
        rw [bn_eq q1, bn_eq q2]
        rcases q5 with ⟨rfl, a2, K2, V2, N2, g1, g2, g3, g4, g5⟩ | ⟨rfl, hb⟩
        · rw [if_neg (by decide : ¬ nrm 1 = 0)]
          obtain ⟨r'', μ3, ρ3, u1, u2, u3, u4, u5⟩ := ES_take g1 (k := 36) (ck := 41) (by unfold kOk; decide) (by decide) (by decide)
          rw [bn_eq u1, u2 (fun ρ => some (0, ρ))]
          rcases u5 with ⟨rfl, _, a3, K3, V3, s1, s2, s3⟩ | ⟨rfl, hb⟩
          · rw [if_neg (by decide : ¬ nrm 1 = 0)]
            refine ⟨1, μ3, ρ3, rfl, rfl, FrE_tr r3 (FrE_tr q3 u3), FrS_tr r4 (FrS_tr q4 u4), .inl ⟨rfl, a3, K3, V3, N2, s2, g2, by omega, fun j j0 j1 => by rw [s3, g4 j j0 j1, m3], fun s hs => ?_⟩⟩
            have := hBS d6
            rw [tyR_cg2 (cd' := fun j => ρ2 115 (200 + j)) _ _ _ (fun i i0 i1 => s3 _)]
            exact g5 s (by omega)
          · rw [if_pos (by decide : nrm 0 = 0)]
            exact ⟨0, μ3, ρ3, rfl, rfl, FrE_tr r3 (FrE_tr q3 u3), FrS_tr r4 (FrS_tr q4 u4), .inr ⟨rfl, hb⟩⟩
        · rw [if_pos (by decide : nrm 0 = 0), eats_C hb.1 hb.2.1 (fun ρ => some (0, ρ))]
          exact ⟨0, μ2, ρ2, rfl, rfl, FrE_tr r3 q3, FrS_tr r4 q4, .inr ⟨rfl, hb⟩⟩
      · rw [if_pos (by decide : nrm 0 = 0), if_pos (by decide : nrm 0 = 0)]
        exact ⟨0, μ1, ρ1, rfl, rfl, r3, r4, .inr ⟨rfl, hb⟩⟩
    · rw [if_neg (fun q => z2 (t2.mp q))]
      by_cases z3 : K = 2
      · rw [if_pos (t3.mpr z3)]; exact word 0 (by decide) (by omega) (by rw [z3]; rfl) z1 (by omega)
      · rw [if_neg (fun q => z3 (t3.mp q))]
        by_cases z4 : K = 3
        · rw [if_pos (t4.mpr z4)]; exact word 1 (by decide) (by omega) (by rw [z4]; rfl) z1 (by omega)
        · rw [if_neg (fun q => z4 (t4.mp q))]
          by_cases z5 : K = 4
          · rw [if_pos (t5.mpr z5)]; exact word 2 (by decide) (by omega) (by rw [z5]; rfl) z1 (by omega)
          · rw [if_neg (fun q => z5 (t5.mp q))]
            by_cases z6 : K = 8
            · rw [if_pos (t6.mpr z6)]; exact word 3 (by decide) (by omega) (by rw [z6]; rfl) z1 (by omega)
            · rw [if_neg (fun q => z6 (t6.mp q))]
              by_cases z7 : K = 11
              · rw [if_pos (t7.mpr z7), w5]
                rcases w01 with q | q
                · have hw : wdM w K = -1 := by rw [z7, q]; rfl
                  rw [if_pos (by rw [q]; decide), nowd hw z1]
                  exact bad hw z1 z2 (by omega)
                · rw [if_neg (by rw [q]; decide)]
                  exact word 5 (by decide) (by omega) (by rw [z7, q]; rfl) z1 (by omega)
              · rw [if_neg (fun q => z7 (t7.mp q))]
                by_cases z8 : K = 12
                · rw [if_pos (t8.mpr z8)]; exact word 4 (by decide) (by omega) (by rw [z8]; rfl) z1 (by omega)
                · rw [if_neg (fun q => z8 (t8.mp q))]
                  have hw : wdM w K = -1 := by
                    unfold wdM
                    rw [if_neg z3, if_neg z4, if_neg z5, if_neg z6, if_neg z7, if_neg z8]
                  rw [nowd hw z1]
                  by_cases z9 : K = 15
                  · rw [if_pos (t9.mpr z9)]
                    subst z9
                    obtain ⟨r, μ1, ρ1, r1, r2, r3, r4, r5⟩ := hI μ ρ a V N hE
                    unfold f_X12_readAtom_j66
                    rw [if_neg z2] at i35
                    rw [if_pos rfl] at i15
                    rw [bn_eq r1, bn_eq i35, if_pos (by decide : nrm 0 = 0), bn_eq i15, if_neg (by decide : ¬ nrm 1 = 0), bn_eq r2]
                    refine ⟨r, μ1, ρ1, ?_, rfl, r3, r4, r5⟩
                    rcases r5 with ⟨q, _⟩ | ⟨q, _⟩ <;> rw [q, gd_pos (by decide)]
                  · rw [if_neg (fun q => z9 (t9.mp q))]
                    exact bad hw z1 z2 z9
