/-! the model's constructor: its last call finds the whole world there -/
def TopO (ν : Mem) : Prop := (∀ k : Nat, k < NC → kd (k : Int) < 100 → ∀ j : Nat, j < nfd (kd (k : Int)) → 0 ≤ ftg (kd (k : Int)) j → ν k j = k + ftg (kd (k : Int)) j) ∧ (∀ k : Nat, k < NC → 50000 ≤ kd (k : Int) → ∀ j : Nat, j < kd (k : Int) % 10000 → ν k j = (k : Int) + 1 + (if 60000 ≤ kd (k : Int) then 2 else 13) * (j : Int))
theorem arrV_ext {cA : ClassId} {n : Nat} {f g : Nat → Value} (h : ∀ j, j < n → f j = g j) : arrV cA n f = arrV cA n g := by
  unfold arrV
  congr 1
  apply Array.ext'
  simp only [Array.toList_ofFn]
  apply List.ext_getElem?
  intro i
  by_cases hi : i < n
  · simp [hi, h i hi]
  · simp [hi]
theorem Gw.top {D : Ds} {b : Nat} {ν : Mem} {H : Heap} (h : Gw D b NC kd ν H) (hT : TopO ν) : Gw D b NC kd (mg ν) H := by
  intro k hk
  have hq := h k hk
  by_cases h1 : kd (k : Int) < 100
  · have : rent D b (kd (k : Int)) (mg ν k) = rent D b (kd (k : Int)) (ν k) := by
      rw [rent_obj h1, rent_obj h1]
      congr 2
      unfold rfs
      apply List.map_congr_left
      intro j hj
      have hj := List.mem_range.mp hj
      congr 1
      unfold mg
      rw [if_pos h1]
      show (if 0 ≤ ftg (kd (k : Int)) (Int.toNat (j : Int)) then _ else _) = _
      rw [Int.toNat_natCast]
      by_cases h2 : 0 ≤ ftg (kd (k : Int)) j
      · rw [if_pos h2, hT.1 k hk h1 j hj h2]
      · rw [if_neg h2]
    rw [this]; exact hq
  · by_cases h2 : kd (k : Int) < 50000
    · have : rent D b (kd (k : Int)) (mg ν k) = rent D b (kd (k : Int)) (ν k) := rent_ext (fun j => by unfold mg; rw [if_neg h1, if_neg (by omega), if_neg (by omega)])
      rw [this]; exact hq
    · rw [rent_r (by omega)] at hq ⊢
      show H[b + k]? = some (vp_cell _ _)
      have hq : H[b + k]? = some (vp_cell _ _) := hq
      rw [hq, vp_cell_q, vp_cell_q]
      congr 1
      apply arrV_ext
      intro j hj
      congr 2
      rw [hT.2 k hk (by omega) j hj]
      unfold mg
      rw [if_neg h1]
      by_cases h3 : 60000 ≤ kd (k : Int)
      · rw [if_pos h3, if_pos h3]
      · rw [if_neg h3, if_neg h3, if_pos (by omega)]
def PostM (D : Ds) (b : Nat) (μ' : Mem) : Array Value → State → Outcome → State → Prop := fun _ st o t => o = .returned none ∧ Gw D b NC kd (mg μ') t.heap ∧ va_F (Ag b) st t
set_option maxHeartbeats 4000000 in
set_option maxRecDepth 20000 in
theorem ci_model (l : Launch) (D : Ds) (b : Nat) {ν μ' : Mem} {r : Int} (hT : TopO (i_X12_111 ν)) (hp : f_X12_plain 112 (i_X12_111 ν) = some (r, μ')) : Met l yX12_init (Cond.code yX12_init cX12_init 1 none :: gT) (rmI 1 17 13640) (PreR D b 112 ν (vls b [(2, 111)])) (PostM D b μ') 17 13640 (Ag b) := by
  refine va_MetF (cc := cX12_init) (maxL := 1) (ret := none) (by decide +kernel) rfl ?_
  intro p e s m args below meth c s₁ B hml hv
  obtain ⟨rfl, hsz, hP, hF, hK, hO, hA⟩ := hv
  have hts := atoms_spec (ws := Cond.code yX12_init cX12_init 1 none :: gT) B.pre
  have hl := lv_entry (vls b [(2, 111)]) (n := 1) (by rw [lsz_eq]; exact Nat.le_of_ble_eq_true rfl)
  rw [lva_eq] at hl
  rw [lg_entry_eq]
  generalize (lg_sl (vls b [(2, 111)]) ++ List.replicate (1 - (lg_sl (vls b [(2, 111)])).length) Slot.unset).toArray = ls at hl ⊢
  have C : CxI p s m (vls b [(2, 111)]).toArray meth c D b cX12_init 1 RX12 := ⟨⟨B.exec, B.bytes, hml, findClass_of_methodNamed B.named, fun w h => hts w (List.mem_cons_of_mem _ h), hK, B.returns, B.notSynchronized, hO.ok⟩, (name_of_methodNamed B.named B.method).1, hA.1, hA.2.1, hA.2.2⟩
  have hG := hO
  have h : Rw D b 112 ν s.heap s.heap [] := ⟨hsz, hP, va_S.rf, hF⟩
  have hl : lvh b ls 1 [(0, 2, 111)] := hl
  show W p l e (rmI 1 17 13640) s m (vls b [(2, 111)]).toArray below meth c s.heap [] 0 0 (MQ below (PostM D b μ') (vls b [(2, 111)]).toArray s 17 13640 (Ag b)) (F0 m 0 ls [])
  refine r_aload_n C.1 hl (kx := 0) rfl rfl dX12_init_0 ?_
  refine rr_obj C (by decide) kl_12_7 ki_obj kc_obj (lvh_sz hl) (by decide) (Nat.le_of_ble_eq_true rfl) dX12_init_1 ?_
  refine r_aload_n C.1 hl (kx := 0) rfl rfl dX12_init_4 ?_
  refine r_sipush C.1 (by decide) dX12_init_5 ?_
  refine rr_newa C h (g := 0) (N := 3300) (ty := .int) rfl (by decide) rfl (by decide) (by decide) (kk_112).2 ka_int (by decide) (by decide) dX12_init_8 (z := 112) rfl (fun H h => ?_)
  refine rr_putF C h ok12 kk_111 (by decide) 1 (by decide) kf_12_13 (by decide) rfl (z := 112) rfl (nar_arr _ _) (fit_arr _ _) dX12_init_10 (jz := 1) rfl (fun H locs h => ?_)
  refine r_aload_n C.1 hl (kx := 0) rfl rfl dX12_init_13 ?_
  refine r_iconst C.1 dX12_init_14 ?_
  refine rr_newa C h (g := 2) (N := 2) (ty := .boolean) rfl (by decide) rfl (by decide) (by decide) (kk_113).2 ka_boolean (by decide) (by decide) dX12_init_15 (z := 113) rfl (fun H h => ?_)
  refine rr_putF C h ok12 kk_111 (by decide) 2 (by decide) kf_12_17 (by decide) rfl (z := 113) rfl (nar_arr _ _) (fit_arr _ _) dX12_init_17 (jz := 2) rfl (fun H locs h => ?_)
  refine r_aload_n C.1 hl (kx := 0) rfl rfl dX12_init_20 ?_
  refine r_sipush C.1 (by decide) dX12_init_21 ?_
  refine rr_newa C h (g := 0) (N := 900) (ty := .int) rfl (by decide) rfl (by decide) (by decide) (kk_114).2 ka_int (by decide) (by decide) dX12_init_24 (z := 114) rfl (fun H h => ?_)
  refine rr_putF C h ok12 kk_111 (by decide) 3 (by decide) kf_12_21 (by decide) rfl (z := 114) rfl (nar_arr _ _) (fit_arr _ _) dX12_init_26 (jz := 3) rfl (fun H locs h => ?_)
  refine r_aload_n C.1 hl (kx := 0) rfl rfl dX12_init_29 ?_
  refine r_sipush C.1 (by decide) dX12_init_30 ?_
  refine rr_newa C h (g := 0) (N := 1100) (ty := .int) rfl (by decide) rfl (by decide) (by decide) (kk_115).2 ka_int (by decide) (by decide) dX12_init_33 (z := 115) rfl (fun H h => ?_)
  refine rr_putF C h ok12 kk_111 (by decide) 4 (by decide) kf_12_24 (by decide) rfl (z := 115) rfl (nar_arr _ _) (fit_arr _ _) dX12_init_35 (jz := 4) rfl (fun H locs h => ?_)
  refine r_aload_n C.1 hl (kx := 0) rfl rfl dX12_init_38 ?_
  refine r_iconst C.1 dX12_init_39 ?_
  refine rr_put C h ok12 kk_111 (by decide) 14 (by decide) kf_12_27 (by decide) (z := (-1)) rfl rfl rfl dX12_init_40 (jz := 14) rfl (fun H locs h => ?_)
  refine r_aload_n C.1 hl (kx := 0) rfl rfl dX12_init_43 ?_
  refine r_sipush C.1 (by decide) dX12_init_44 ?_
  refine rr_newa C h (g := 0) (N := 900) (ty := .int) rfl (by decide) rfl (by decide) (by decide) (kk_116).2 ka_int (by decide) (by decide) dX12_init_47 (z := 116) rfl (fun H h => ?_)
  refine rr_putF C h ok12 kk_111 (by decide) 16 (by decide) kf_12_30 (by decide) rfl (z := 116) rfl (nar_arr _ _) (fit_arr _ _) dX12_init_49 (jz := 16) rfl (fun H locs h => ?_)
  refine r_aload_n C.1 hl (kx := 0) rfl rfl dX12_init_52 ?_
  refine r_bipush C.1 (by decide) dX12_init_53 ?_
  refine rr_newa C h (g := 0) (N := 6) (ty := .int) rfl (by decide) rfl (by decide) (by decide) (kk_117).2 ka_int (by decide) (by decide) dX12_init_55 (z := 117) rfl (fun H h => ?_)
  refine rr_putF C h ok12 kk_111 (by decide) 17 (by decide) kf_12_33 (by decide) rfl (z := 117) rfl (nar_arr _ _) (fit_arr _ _) dX12_init_57 (jz := 17) rfl (fun H locs h => ?_)
  refine r_aload_n C.1 hl (kx := 0) rfl rfl dX12_init_60 ?_
  refine r_bipush C.1 (by decide) dX12_init_61 ?_
  refine rr_newa C h (g := 0) (N := 13) (ty := .int) rfl (by decide) rfl (by decide) (by decide) (kk_118).2 ka_int (by decide) (by decide) dX12_init_63 (z := 118) rfl (fun H h => ?_)
  refine rr_putF C h ok12 kk_111 (by decide) 18 (by decide) kf_12_36 (by decide) rfl (z := 118) rfl (nar_arr _ _) (fit_arr _ _) dX12_init_65 (jz := 18) rfl (fun H locs h => ?_)
  refine r_aload_n C.1 hl (kx := 0) rfl rfl dX12_init_68 ?_
  refine r_bipush C.1 (by decide) dX12_init_69 ?_
  refine rr_newa C h (g := 0) (N := 7) (ty := .int) rfl (by decide) rfl (by decide) (by decide) (kk_119).2 ka_int (by decide) (by decide) dX12_init_71 (z := 119) rfl (fun H h => ?_)
  refine rr_putF C h ok12 kk_111 (by decide) 21 (by decide) kf_12_39 (by decide) rfl (z := 119) rfl (nar_arr _ _) (fit_arr _ _) dX12_init_73 (jz := 21) rfl (fun H locs h => ?_)
  refine r_aload_n C.1 hl (kx := 0) rfl rfl dX12_init_76 ?_
  refine r_bipush C.1 (by decide) dX12_init_77 ?_
  refine rr_newa C h (g := 0) (N := 6) (ty := .int) rfl (by decide) rfl (by decide) (by decide) (kk_120).2 ka_int (by decide) (by decide) dX12_init_79 (z := 120) rfl (fun H h => ?_)
  refine rr_putF C h ok12 kk_111 (by decide) 22 (by decide) kf_12_42 (by decide) rfl (z := 120) rfl (nar_arr _ _) (fit_arr _ _) dX12_init_81 (jz := 22) rfl (fun H locs h => ?_)
  refine r_aload_n C.1 hl (kx := 0) rfl rfl dX12_init_84 ?_
  refine r_bipush C.1 (by decide) dX12_init_85 ?_
  refine rr_newa C h (g := 0) (N := 7) (ty := .int) rfl (by decide) rfl (by decide) (by decide) (kk_121).2 ka_int (by decide) (by decide) dX12_init_87 (z := 121) rfl (fun H h => ?_)
  refine rr_putF C h ok12 kk_111 (by decide) 23 (by decide) kf_12_45 (by decide) rfl (z := 121) rfl (nar_arr _ _) (fit_arr _ _) dX12_init_89 (jz := 23) rfl (fun H locs h => ?_)
  refine r_aload_n C.1 hl (kx := 0) rfl rfl dX12_init_92 ?_
  refine r_bipush C.1 (by decide) dX12_init_93 ?_
  refine rr_newa C h (g := 0) (N := 7) (ty := .int) rfl (by decide) rfl (by decide) (by decide) (kk_122).2 ka_int (by decide) (by decide) dX12_init_95 (z := 122) rfl (fun H h => ?_)
  refine rr_putF C h ok12 kk_111 (by decide) 25 (by decide) kf_12_48 (by decide) rfl (z := 122) rfl (nar_arr _ _) (fit_arr _ _) dX12_init_97 (jz := 25) rfl (fun H locs h => ?_)
  refine r_aload_n C.1 hl (kx := 0) rfl rfl dX12_init_100 ?_
  refine r_sipush C.1 (by decide) dX12_init_101 ?_
  refine rr_newa C h (g := 2) (N := 3584) (ty := .boolean) rfl (by decide) rfl (by decide) (by decide) (kk_123).2 ka_boolean (by decide) (by decide) dX12_init_104 (z := 123) rfl (fun H h => ?_)
  refine rr_putF C h ok12 kk_111 (by decide) 26 (by decide) kf_12_51 (by decide) rfl (z := 123) rfl (nar_arr _ _) (fit_arr _ _) dX12_init_106 (jz := 26) rfl (fun H locs h => ?_)
  refine r_aload_n C.1 hl (kx := 0) rfl rfl dX12_init_109 ?_
  refine r_sipush C.1 (by decide) dX12_init_110 ?_
  refine rr_newa C h (g := 2) (N := 3584) (ty := .boolean) rfl (by decide) rfl (by decide) (by decide) (kk_124).2 ka_boolean (by decide) (by decide) dX12_init_113 (z := 124) rfl (fun H h => ?_)
  refine rr_putF C h ok12 kk_111 (by decide) 27 (by decide) kf_12_54 (by decide) rfl (z := 124) rfl (nar_arr _ _) (fit_arr _ _) dX12_init_115 (jz := 27) rfl (fun H locs h => ?_)
  refine r_aload_n C.1 hl (kx := 0) rfl rfl dX12_init_118 ?_
  refine r_bipush C.1 (by decide) dX12_init_119 ?_
  refine rr_newa C h (g := 0) (N := 56) (ty := .int) rfl (by decide) rfl (by decide) (by decide) (kk_125).2 ka_int (by decide) (by decide) dX12_init_121 (z := 125) rfl (fun H h => ?_)
  refine rr_putF C h ok12 kk_111 (by decide) 28 (by decide) kf_12_57 (by decide) rfl (z := 125) rfl (nar_arr _ _) (fit_arr _ _) dX12_init_123 (jz := 28) rfl (fun H locs h => ?_)
  refine r_aload_n C.1 hl (kx := 0) rfl rfl dX12_init_126 ?_
  refine r_iconst C.1 dX12_init_127 ?_
  refine rr_newa C h (g := 0) (N := 4) (ty := .int) rfl (by decide) rfl (by decide) (by decide) (kk_126).2 ka_int (by decide) (by decide) dX12_init_128 (z := 126) rfl (fun H h => ?_)
  refine r_dup C.1 (rfv_cat _ _) dX12_init_130 ?_
  refine r_iconst C.1 dX12_init_131 ?_
  refine r_iconst C.1 dX12_init_132 ?_
  refine rr_iast C h (N := 4) (by decide) kk_126 (by decide) (by decide) dX12_init_133 (jz := 0) (by decide) (fun H locs h => ?_)
  refine r_dup C.1 (rfv_cat _ _) dX12_init_134 ?_
  refine r_iconst C.1 dX12_init_135 ?_
  refine r_iconst C.1 dX12_init_136 ?_
  refine rr_iast C h (N := 4) (by decide) kk_126 (by decide) (by decide) dX12_init_137 (jz := 1) (by decide) (fun H locs h => ?_)
  refine r_dup C.1 (rfv_cat _ _) dX12_init_138 ?_
  refine r_iconst C.1 dX12_init_139 ?_
  refine r_iconst C.1 dX12_init_140 ?_
  refine rr_iast C h (N := 4) (by decide) kk_126 (by decide) (by decide) dX12_init_141 (jz := 2) (by decide) (fun H locs h => ?_)
  refine r_dup C.1 (rfv_cat _ _) dX12_init_142 ?_
  refine r_iconst C.1 dX12_init_143 ?_
  refine r_iconst C.1 dX12_init_144 ?_
  refine rr_iast C h (N := 4) (by decide) kk_126 (by decide) (by decide) dX12_init_145 (jz := 3) (by decide) (fun H locs h => ?_)
  refine rr_putF C h ok12 kk_111 (by decide) 29 (by decide) kf_12_60 (by decide) rfl (z := 126) rfl (nar_arr _ _) (fit_arr _ _) dX12_init_146 (jz := 29) rfl (fun H locs h => ?_)
  refine r_aload_n C.1 hl (kx := 0) rfl rfl dX12_init_149 ?_
  refine r_iconst C.1 dX12_init_150 ?_
  refine rr_newa C h (g := 0) (N := 4) (ty := .int) rfl (by decide) rfl (by decide) (by decide) (kk_127).2 ka_int (by decide) (by decide) dX12_init_151 (z := 127) rfl (fun H h => ?_)
  refine rr_putF C h ok12 kk_111 (by decide) 30 (by decide) kf_12_63 (by decide) rfl (z := 127) rfl (nar_arr _ _) (fit_arr _ _) dX12_init_153 (jz := 30) rfl (fun H locs h => ?_)
  refine r_aload_n C.1 hl (kx := 0) rfl rfl dX12_init_156 ?_
  refine r_sipush C.1 (by decide) dX12_init_157 ?_
  refine rr_newa C h (g := 3) (N := 160) (ty := .long) rfl (by decide) rfl (by decide) (by decide) (kk_128).2 ka_long (by decide) (by decide) dX12_init_160 (z := 128) rfl (fun H h => ?_)
  refine rr_putF C h ok12 kk_111 (by decide) 31 (by decide) kf_12_66 (by decide) rfl (z := 128) rfl (nar_arr _ _) (fit_arr _ _) dX12_init_162 (jz := 31) rfl (fun H locs h => ?_)
  refine r_aload_n C.1 hl (kx := 0) rfl rfl dX12_init_165 ?_
  refine rr_get C h ok12 kk_111 (by decide) 1 (by decide) kf_12_13 (z := 112) rfl rfl dX12_init_166 ?_
  have h : Rw D b 129 (i_X12_111 ν) s.heap H locs := h
  have hGw : Gw D b NC kd (mg (i_X12_111 ν)) H := h.2.1.top hT
  have hr : va_Run p l e (rmI 1 17 13640) s m (vls b [(2, 111)]).toArray below meth c H locs 17 13640 0 0 (F0 m 169 ls [rfv b 112]) [] (Post D b none μ' (vls b [(2, 112)]).toArray) (Ab b NC) := va_runS (As := vls b [(2, 112)]) (rest := []) ⟨C.1.1, C.1.2.1, C.1.2.2.1, C.1.2.2.2.1, C.1.2.2.2.2.1⟩ (c_X12_plain l D b hp) ⟨callB_row C.1 mi_X12_plain kl_12_70 (by decide), C.1.2.2.2.2.1 _ st_X12_plain⟩ ⟨PreC.blind _ _ _ _, fun U hU hW => ⟨rfl, by rw [hU]; exact hGw, va_K.moved hW.alike C.1.2.2.2.2.2.1, (hG.moved h.2.2.1 hU hW).ok⟩⟩ rfl rfl (lvh_sz hl) rfl (lv_room (Nat.le_of_ble_eq_true rfl)) dX12_init_169 (by decide)
  intro T hT2 X
  obtain ⟨v, st₀, t, T', L, h0, X', hL, e1, e2, ⟨hv, hG2, hz, hk⟩, stp⟩ := hr T hT2 X
  cases hv
  rw [h0] at hz hk
  have hS := h.2.2.1
  have hS2 : va_S (Ag b) s.heap T'.heap (locs ++ L) := ⟨Nat.le_trans hS.1 (by rw [e1]; exact hz), fun q h1 h2 => by rw [e1, hk q (Nat.lt_of_lt_of_le h1 hS.1) (fun z => h2 z.1)]; exact hS.2.1 q h1 h2, fun q hq => by
      rcases List.mem_append.mp hq with h | h
      · exact hS.2.2 q h
      · exact (hL q h).1⟩
  have kk : W p l e (rmI 1 17 13640) s m (vls b [(2, 111)]).toArray below meth c T'.heap (locs ++ L) 17 13640 (MQ below (PostM D b μ') (vls b [(2, 111)]).toArray s 17 13640 (Ag b)) (F0 m 172 ls []) := W.vret C.1.1 C.1.2.1 C.1.2.2.2.2.2.2.1 (fun t9 ht9 hW => ⟨rfl, by rw [ht9, e1]; exact hG2, hS2.F ht9⟩) hS2.2.2 dX12_init_172 C.1.2.2.2.2.2.2.2.1
  obtain ⟨t2, a1, b1⟩ := kk T' rfl X'
  exact ⟨t2, stp t2 a1, b1⟩
