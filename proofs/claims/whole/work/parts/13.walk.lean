section WALK
variable {p : Program} {l : Launch} {e : Env} {s : State} {m : MethodId} {args : Array Value} {below : List Frame} {meth : Method} {c : Code} {H : Heap} {locs : List Loc} {D : Ds} {b : Nat} {n0 : Nat}
set_option maxHeartbeats 4000000 in
set_option maxRecDepth 20000 in
theorem w_X7_readWears_0 (C : Cx p s m args meth c D b cX7_readWears 2 RX7 (some .boolean)) {r : Int} {μ' : Mem} {x0 : Int} {μ : Mem} {H : Heap} {locs : List Loc} {ls : Array Slot} (hf : f_X7_readWears x0 μ = some (r, μ')) (t0 : isK x0 7) (hw : Hw D b μ s.heap H locs) (hl : lvh b ls 2 [(0, 2, x0)]) : W p l e (rm 67) s m args below meth c H locs 0 0 (QM below args s D b (some (.int (jI r))) μ') (F0 m 0 ls []) := by
  unfold f_X7_readWears at hf
  refine r_aload_n C hl (kx := 0) rfl rfl dX7_readWears_0 ?_
  refine gf_7_12 C hw t0 dX7_readWears_1 ?_
  obtain ⟨r2, μ1, e3, hf⟩ := bn_some hf
  refine r_callVn C hw (K := []) ok9 (ow_7_0 t0) (c_X9_advance l D b (ow_7_0 t0) e3) mi_X9_advance in_X9_advance se_X9_advance kl_7_55 rfl rfl (lvh_sz hl) (by decide) (Kr := []) rfl (Nat.le_of_ble_eq_true rfl) dX7_readWears_4 (fun H locs hw => ?_)
  refine r_aload_n C hl (kx := 0) rfl rfl dX7_readWears_7 ?_
  refine r_iconst C dX7_readWears_8 ?_
  obtain ⟨μ4, e5, hf⟩ := nm_some hf
  refine pf_7_138 C hw t0 (by decide) dX7_readWears_9 (fun H locs hw => ?_)
  rw [← e5] at hw
  refine r_aload_n C hl (kx := 0) rfl rfl dX7_readWears_12 ?_
  refine gf_7_25 C hw t0 dX7_readWears_13 ?_
  obtain ⟨g6, hf⟩ := gd_some hf
  refine gf_7_142 C hw g6 dX7_readWears_16 ?_
  obtain ⟨r8, μ7, e9, hf⟩ := bn_some hf
  refine r_callVv C hw (K := []) ok4 (ow_3_14 g6) (c_X4_stepsNow l D b (ow_3_14 g6) e9) mi_X4_stepsNow in_X4_stepsNow se_X4_stepsNow kl_7_146 rfl rfl (lvh_sz hl) (by decide) (Kr := []) rfl (Nat.le_of_ble_eq_true rfl) dX7_readWears_19 (fun H locs hw => ?_)
  refine r_istore_n C hl (by decide) (L' := [(1, 0, r8), (0, 2, x0)]) rfl rfl dX7_readWears_22 (fun ls hl => ?_)
  refine r_aload_n C hl (kx := 1) rfl rfl dX7_readWears_23 ?_
  refine r_bipush C (by decide) dX7_readWears_24 ?_
  obtain ⟨r11, μ10, e12, hf⟩ := bn_some hf
  refine r_callVv C hw (K := [(0, 58)]) ok7 t0 (c_X7_take l D b t0 e12) mi_X7_take in_X7_take se_X7_take kl_7_64 rfl rfl (lvh_sz hl) (by decide) (Kr := []) rfl (Nat.le_of_ble_eq_true rfl) dX7_readWears_26 (fun H locs hw => ?_)
  refine r_if_eq C (tgt := 40) (by decide) dX7_readWears_29 (fun c13 => ?_) (fun c13 => ?_)
  · have hf := ite_t c13 hf
    refine r_iconst C dX7_readWears_40 ?_
    exact r_zret C hw (by decide) hf dX7_readWears_41
  · have hf := ite_f c13 hf
    refine r_aload_n C hl (kx := 1) rfl rfl dX7_readWears_32 ?_
    refine r_iconst C dX7_readWears_33 ?_
    obtain ⟨r15, μ14, e16, hf⟩ := bn_some hf
    refine r_callVv C hw (K := [(0, 0)]) ok7 t0 (c_X7_readSum l D b t0 e16) mi_X7_readSum in_X7_readSum se_X7_readSum kl_7_152 rfl rfl (lvh_sz hl) (by decide) (Kr := []) rfl (Nat.le_of_ble_eq_true rfl) dX7_readWears_34 (fun H locs hw => ?_)
    refine r_if_ne C (tgt := 42) (by decide) dX7_readWears_37 (fun c17 => ?_) (fun c17 => ?_)
    · have hf := ite_f c17 hf
      refine r_aload_n C hl (kx := 1) rfl rfl dX7_readWears_42 ?_
      refine gf_7_25 C hw t0 dX7_readWears_43 ?_
      obtain ⟨g18, hf⟩ := gd_some hf
      refine gf_7_142 C hw g18 dX7_readWears_46 ?_
      refine r_iconst C dX7_readWears_49 ?_
      refine r_iload_n C hl (kx := 0) rfl rfl dX7_readWears_50 ?_
      obtain ⟨r20, μ19, e21, hf⟩ := bn_some hf
      refine r_callVn C hw (K := [(0, 0), (0, r8)]) ok4 (ow_3_14 g18) (c_X4_enact l D b (ow_3_14 g18) e21) mi_X4_enact in_X4_enact se_X4_enact kl_7_155 rfl rfl (lvh_sz hl) (by decide) (Kr := []) rfl (Nat.le_of_ble_eq_true rfl) dX7_readWears_51 (fun H locs hw => ?_)
      refine r_aload_n C hl (kx := 1) rfl rfl dX7_readWears_54 ?_
      obtain ⟨r23, μ22, e24, hf⟩ := bn_some hf
      refine r_callVv C hw (K := []) ok7 t0 (c_X7_takeLineEnd l D b t0 e24) mi_X7_takeLineEnd in_X7_takeLineEnd se_X7_takeLineEnd kl_7_77 rfl rfl (lvh_sz hl) (by decide) (Kr := []) rfl (Nat.le_of_ble_eq_true rfl) dX7_readWears_55 (fun H locs hw => ?_)
      obtain ⟨g25, hf⟩ := gd_some hf
      exact r_zret C hw g25 hf dX7_readWears_58
    · have hf := ite_t c17 hf
      refine r_iconst C dX7_readWears_40 ?_
      exact r_zret C hw (by decide) hf dX7_readWears_41
theorem c_X7_readWears (l : Launch) (D : Ds) (b : Nat) {x0 : Int} {μ μ' : Mem} {r : Int} (t0 : isK x0 7) (hf : f_X7_readWears x0 μ = some (r, μ')) : Ctr l D b yX7_readWears cX7_readWears 2 (some .boolean) 67 [(2, x0)] μ (some (.int (jI r))) μ' := by
  refine Ctr.of (by decide +kernel) (Nat.le_of_ble_eq_true rfl) ?_
  intro p e s m below meth c C hw ls hl
  exact w_X7_readWears_0 C hf t0 hw hl
set_option maxHeartbeats 4000000 in
set_option maxRecDepth 20000 in
theorem w_X7_readMay_0 (C : Cx p s m args meth c D b cX7_readMay 2 RX7 (some .boolean)) {r : Int} {μ' : Mem} {x0 : Int} {μ : Mem} {H : Heap} {locs : List Loc} {ls : Array Slot} (hf : f_X7_readMay x0 μ = some (r, μ')) (t0 : isK x0 7) (hw : Hw D b μ s.heap H locs) (hl : lvh b ls 2 [(0, 2, x0)]) : W p l e (rm 67) s m args below meth c H locs 0 0 (QM below args s D b (some (.int (jI r))) μ') (F0 m 0 ls []) := by
  unfold f_X7_readMay at hf
  refine r_aload_n C hl (kx := 0) rfl rfl dX7_readMay_0 ?_
  refine gf_7_12 C hw t0 dX7_readMay_1 ?_
  obtain ⟨r2, μ1, e3, hf⟩ := bn_some hf
  refine r_callVn C hw (K := []) ok9 (ow_7_0 t0) (c_X9_advance l D b (ow_7_0 t0) e3) mi_X9_advance in_X9_advance se_X9_advance kl_7_55 rfl rfl (lvh_sz hl) (by decide) (Kr := []) rfl (Nat.le_of_ble_eq_true rfl) dX7_readMay_4 (fun H locs hw => ?_)
  refine r_aload_n C hl (kx := 0) rfl rfl dX7_readMay_7 ?_
  refine r_iconst C dX7_readMay_8 ?_
  obtain ⟨μ4, e5, hf⟩ := nm_some hf
  refine pf_7_138 C hw t0 (by decide) dX7_readMay_9 (fun H locs hw => ?_)
  rw [← e5] at hw
  refine r_aload_n C hl (kx := 0) rfl rfl dX7_readMay_12 ?_
  refine gf_7_25 C hw t0 dX7_readMay_13 ?_
  obtain ⟨g6, hf⟩ := gd_some hf
  refine gf_7_142 C hw g6 dX7_readMay_16 ?_
  obtain ⟨r8, μ7, e9, hf⟩ := bn_some hf
  refine r_callVv C hw (K := []) ok4 (ow_3_14 g6) (c_X4_stepsNow l D b (ow_3_14 g6) e9) mi_X4_stepsNow in_X4_stepsNow se_X4_stepsNow kl_7_146 rfl rfl (lvh_sz hl) (by decide) (Kr := []) rfl (Nat.le_of_ble_eq_true rfl) dX7_readMay_19 (fun H locs hw => ?_)
  refine r_istore_n C hl (by decide) (L' := [(1, 0, r8), (0, 2, x0)]) rfl rfl dX7_readMay_22 (fun ls hl => ?_)
  refine r_aload_n C hl (kx := 1) rfl rfl dX7_readMay_23 ?_
  refine r_bipush C (by decide) dX7_readMay_24 ?_
  obtain ⟨r11, μ10, e12, hf⟩ := bn_some hf
  refine r_callVv C hw (K := [(0, 58)]) ok7 t0 (c_X7_take l D b t0 e12) mi_X7_take in_X7_take se_X7_take kl_7_64 rfl rfl (lvh_sz hl) (by decide) (Kr := []) rfl (Nat.le_of_ble_eq_true rfl) dX7_readMay_26 (fun H locs hw => ?_)
  refine r_if_eq C (tgt := 40) (by decide) dX7_readMay_29 (fun c13 => ?_) (fun c13 => ?_)
  · have hf := ite_t c13 hf
    refine r_iconst C dX7_readMay_40 ?_
    exact r_zret C hw (by decide) hf dX7_readMay_41
  · have hf := ite_f c13 hf
    refine r_aload_n C hl (kx := 1) rfl rfl dX7_readMay_32 ?_
    refine r_iconst C dX7_readMay_33 ?_
    obtain ⟨r15, μ14, e16, hf⟩ := bn_some hf
    refine r_callVv C hw (K := [(0, 0)]) ok7 t0 (c_X7_readTruth l D b t0 e16) mi_X7_readTruth in_X7_readTruth se_X7_readTruth kl_7_159 rfl rfl (lvh_sz hl) (by decide) (Kr := []) rfl (Nat.le_of_ble_eq_true rfl) dX7_readMay_34 (fun H locs hw => ?_)
    refine r_if_ne C (tgt := 42) (by decide) dX7_readMay_37 (fun c17 => ?_) (fun c17 => ?_)
    · have hf := ite_f c17 hf
      refine r_aload_n C hl (kx := 1) rfl rfl dX7_readMay_42 ?_
      refine gf_7_25 C hw t0 dX7_readMay_43 ?_
      obtain ⟨g18, hf⟩ := gd_some hf
      refine gf_7_142 C hw g18 dX7_readMay_46 ?_
      refine r_iconst C dX7_readMay_49 ?_
      refine r_iload_n C hl (kx := 0) rfl rfl dX7_readMay_50 ?_
      obtain ⟨r20, μ19, e21, hf⟩ := bn_some hf
      refine r_callVn C hw (K := [(0, 1), (0, r8)]) ok4 (ow_3_14 g18) (c_X4_enact l D b (ow_3_14 g18) e21) mi_X4_enact in_X4_enact se_X4_enact kl_7_155 rfl rfl (lvh_sz hl) (by decide) (Kr := []) rfl (Nat.le_of_ble_eq_true rfl) dX7_readMay_51 (fun H locs hw => ?_)
      refine r_aload_n C hl (kx := 1) rfl rfl dX7_readMay_54 ?_
      obtain ⟨r23, μ22, e24, hf⟩ := bn_some hf
      refine r_callVv C hw (K := []) ok7 t0 (c_X7_takeLineEnd l D b t0 e24) mi_X7_takeLineEnd in_X7_takeLineEnd se_X7_takeLineEnd kl_7_77 rfl rfl (lvh_sz hl) (by decide) (Kr := []) rfl (Nat.le_of_ble_eq_true rfl) dX7_readMay_55 (fun H locs hw => ?_)
      obtain ⟨g25, hf⟩ := gd_some hf
      exact r_zret C hw g25 hf dX7_readMay_58
    · have hf := ite_t c17 hf
      refine r_iconst C dX7_readMay_40 ?_
      exact r_zret C hw (by decide) hf dX7_readMay_41
theorem c_X7_readMay (l : Launch) (D : Ds) (b : Nat) {x0 : Int} {μ μ' : Mem} {r : Int} (t0 : isK x0 7) (hf : f_X7_readMay x0 μ = some (r, μ')) : Ctr l D b yX7_readMay cX7_readMay 2 (some .boolean) 67 [(2, x0)] μ (some (.int (jI r))) μ' := by
  refine Ctr.of (by decide +kernel) (Nat.le_of_ble_eq_true rfl) ?_
  intro p e s m below meth c C hw ls hl
  exact w_X7_readMay_0 C hf t0 hw hl
set_option maxHeartbeats 4000000 in
set_option maxRecDepth 20000 in
theorem w_X7_readLine_102 (C : Cx p s m args meth c D b cX7_readLine 1 RX7 (some .boolean)) {r : Int} {μ' : Mem} {x0 : Int} {μ : Mem} {H : Heap} {locs : List Loc} {ls : Array Slot} (hf : f_X7_readLine_j102 x0 μ = some (r, μ')) (t0 : isK x0 7) (hw : Hw D b μ s.heap H locs) (hl : lvh b ls 1 [(0, 2, x0)]) : W p l e (rm 68) s m args below meth c H locs 0 0 (QM below args s D b (some (.int (jI r))) μ') (F0 m 102 ls []) := by
  unfold f_X7_readLine_j102 at hf
  refine r_aload_n C hl (kx := 0) rfl rfl dX7_readLine_102 ?_
  refine r_iconst C dX7_readLine_103 ?_
  obtain ⟨r2, μ1, e3, hf⟩ := bn_some hf
  refine r_callVv C hw (K := [(0, 2)]) ok7 t0 (c_X7_refuse l D b t0 e3) mi_X7_refuse in_X7_refuse se_X7_refuse kl_7_51 rfl rfl (lvh_sz hl) (by decide) (Kr := []) rfl (Nat.le_of_ble_eq_true rfl) dX7_readLine_104 (fun H locs hw => ?_)
  obtain ⟨g4, hf⟩ := gd_some hf
  exact r_zret C hw g4 hf dX7_readLine_107
set_option maxHeartbeats 4000000 in
set_option maxRecDepth 20000 in
theorem w_X7_readLine_0 (C : Cx p s m args meth c D b cX7_readLine 1 RX7 (some .boolean)) {r : Int} {μ' : Mem} {x0 : Int} {μ : Mem} {H : Heap} {locs : List Loc} {ls : Array Slot} (hf : f_X7_readLine x0 μ = some (r, μ')) (t0 : isK x0 7) (hw : Hw D b μ s.heap H locs) (hl : lvh b ls 1 [(0, 2, x0)]) : W p l e (rm 68) s m args below meth c H locs 0 0 (QM below args s D b (some (.int (jI r))) μ') (F0 m 0 ls []) := by
  unfold f_X7_readLine at hf
  refine r_aload_n C hl (kx := 0) rfl rfl dX7_readLine_0 ?_
  refine gf_7_12 C hw t0 dX7_readLine_1 ?_
  refine gf_7_42 C hw (ow_7_0 t0) dX7_readLine_4 ?_
  rcases Decidable.em (nrm (μ (x0 + 1) 0) = 130) with c1 | c1
  · have hf := ite_t c1 hf
    refine r_tabIn C (tgt := 72) c1 (by decide) (by decide) rfl (by decide) dX7_readLine_7 ?_
    refine r_aload_n C hl (kx := 0) rfl rfl dX7_readLine_72 ?_
    obtain ⟨r3, μ2, e4, hf⟩ := bn_some hf
    refine r_callVv C hw (K := []) ok7 t0 (c_X7_readLane l D b t0 e4) mi_X7_readLane in_X7_readLane se_X7_readLane kl_7_80 rfl rfl (lvh_sz hl) (by decide) (Kr := []) rfl (Nat.le_of_ble_eq_true rfl) dX7_readLine_73 (fun H locs hw => ?_)
    obtain ⟨g5, hf⟩ := gd_some hf
    exact r_zret C hw g5 hf dX7_readLine_76
  have hf := ite_f c1 hf
  rcases Decidable.em (nrm (μ (x0 + 1) 0) = 134) with c6 | c6
  · have hf := ite_t c6 hf
    refine r_tabIn C (tgt := 77) c6 (by decide) (by decide) rfl (by decide) dX7_readLine_7 ?_
    refine r_aload_n C hl (kx := 0) rfl rfl dX7_readLine_77 ?_
    obtain ⟨r8, μ7, e9, hf⟩ := bn_some hf
    refine r_callVv C hw (K := []) ok7 t0 (c_X7_readCart l D b t0 e9) mi_X7_readCart in_X7_readCart se_X7_readCart kl_7_83 rfl rfl (lvh_sz hl) (by decide) (Kr := []) rfl (Nat.le_of_ble_eq_true rfl) dX7_readLine_78 (fun H locs hw => ?_)
    obtain ⟨g10, hf⟩ := gd_some hf
    exact r_zret C hw g10 hf dX7_readLine_81
  have hf := ite_f c6 hf
  rcases Decidable.em (nrm (μ (x0 + 1) 0) = 137) with c11 | c11
  · have hf := ite_t c11 hf
    refine r_tabIn C (tgt := 82) c11 (by decide) (by decide) rfl (by decide) dX7_readLine_7 ?_
    refine r_aload_n C hl (kx := 0) rfl rfl dX7_readLine_82 ?_
    obtain ⟨r13, μ12, e14, hf⟩ := bn_some hf
    refine r_callVv C hw (K := []) ok7 t0 (c_X7_readPerson l D b t0 e14) mi_X7_readPerson in_X7_readPerson se_X7_readPerson kl_7_86 rfl rfl (lvh_sz hl) (by decide) (Kr := []) rfl (Nat.le_of_ble_eq_true rfl) dX7_readLine_83 (fun H locs hw => ?_)
    obtain ⟨g15, hf⟩ := gd_some hf
    exact r_zret C hw g15 hf dX7_readLine_86
  have hf := ite_f c11 hf
  rcases Decidable.em (nrm (μ (x0 + 1) 0) = 140) with c16 | c16
  · have hf := ite_t c16 hf
    refine r_tabIn C (tgt := 87) c16 (by decide) (by decide) rfl (by decide) dX7_readLine_7 ?_
    refine r_aload_n C hl (kx := 0) rfl rfl dX7_readLine_87 ?_
    obtain ⟨r18, μ17, e19, hf⟩ := bn_some hf
    refine r_callVv C hw (K := []) ok7 t0 (c_X7_readRain l D b t0 e19) mi_X7_readRain in_X7_readRain se_X7_readRain kl_7_89 rfl rfl (lvh_sz hl) (by decide) (Kr := []) rfl (Nat.le_of_ble_eq_true rfl) dX7_readLine_88 (fun H locs hw => ?_)
    obtain ⟨g20, hf⟩ := gd_some hf
    exact r_zret C hw g20 hf dX7_readLine_91
  have hf := ite_f c16 hf
  rcases Decidable.em (nrm (μ (x0 + 1) 0) = 141) with c21 | c21
  · have hf := ite_t c21 hf
    refine r_tabIn C (tgt := 92) c21 (by decide) (by decide) rfl (by decide) dX7_readLine_7 ?_
    refine r_aload_n C hl (kx := 0) rfl rfl dX7_readLine_92 ?_
    obtain ⟨r23, μ22, e24, hf⟩ := bn_some hf
    refine r_callVv C hw (K := []) ok7 t0 (c_X7_readWears l D b t0 e24) mi_X7_readWears in_X7_readWears se_X7_readWears kl_7_92 rfl rfl (lvh_sz hl) (by decide) (Kr := []) rfl (Nat.le_of_ble_eq_true rfl) dX7_readLine_93 (fun H locs hw => ?_)
    obtain ⟨g25, hf⟩ := gd_some hf
    exact r_zret C hw g25 hf dX7_readLine_96
  have hf := ite_f c21 hf
  rcases Decidable.em (nrm (μ (x0 + 1) 0) = 142) with c26 | c26
  · have hf := ite_t c26 hf
    refine r_tabIn C (tgt := 97) c26 (by decide) (by decide) rfl (by decide) dX7_readLine_7 ?_
    refine r_aload_n C hl (kx := 0) rfl rfl dX7_readLine_97 ?_
    obtain ⟨r28, μ27, e29, hf⟩ := bn_some hf
    refine r_callVv C hw (K := []) ok7 t0 (c_X7_readMay l D b t0 e29) mi_X7_readMay in_X7_readMay se_X7_readMay kl_7_95 rfl rfl (lvh_sz hl) (by decide) (Kr := []) rfl (Nat.le_of_ble_eq_true rfl) dX7_readLine_98 (fun H locs hw => ?_)
    obtain ⟨g30, hf⟩ := gd_some hf
    exact r_zret C hw g30 hf dX7_readLine_101
  have hf := ite_f c26 hf
  have hdef : W p l e (rm 68) s m args below meth c H locs 0 0 (QM below args s D b (some (.int (jI r))) μ') (F0 m 102 ls []) := by
    exact w_X7_readLine_102 C hf t0 hw (lvh_sub hl [0] rfl)
  rcases Decidable.em (nrm (μ (x0 + 1) 0) = 131) with c31 | c31
  · exact r_tabIn C (tgt := 102) c31 (by decide) (by decide) rfl (by decide) dX7_readLine_7 hdef
  rcases Decidable.em (nrm (μ (x0 + 1) 0) = 132) with c32 | c32
  · exact r_tabIn C (tgt := 102) c32 (by decide) (by decide) rfl (by decide) dX7_readLine_7 hdef
  rcases Decidable.em (nrm (μ (x0 + 1) 0) = 133) with c33 | c33
  · exact r_tabIn C (tgt := 102) c33 (by decide) (by decide) rfl (by decide) dX7_readLine_7 hdef
  rcases Decidable.em (nrm (μ (x0 + 1) 0) = 135) with c34 | c34
  · exact r_tabIn C (tgt := 102) c34 (by decide) (by decide) rfl (by decide) dX7_readLine_7 hdef
  rcases Decidable.em (nrm (μ (x0 + 1) 0) = 136) with c35 | c35
  · exact r_tabIn C (tgt := 102) c35 (by decide) (by decide) rfl (by decide) dX7_readLine_7 hdef
  rcases Decidable.em (nrm (μ (x0 + 1) 0) = 138) with c36 | c36
  · exact r_tabIn C (tgt := 102) c36 (by decide) (by decide) rfl (by decide) dX7_readLine_7 hdef
  rcases Decidable.em (nrm (μ (x0 + 1) 0) = 139) with c37 | c37
  · exact r_tabIn C (tgt := 102) c37 (by decide) (by decide) rfl (by decide) dX7_readLine_7 hdef
  exact r_tabOut C (tgt := 102) (by omega) (by decide) dX7_readLine_7 hdef
theorem c_X7_readLine (l : Launch) (D : Ds) (b : Nat) {x0 : Int} {μ μ' : Mem} {r : Int} (t0 : isK x0 7) (hf : f_X7_readLine x0 μ = some (r, μ')) : Ctr l D b yX7_readLine cX7_readLine 1 (some .boolean) 68 [(2, x0)] μ (some (.int (jI r))) μ' := by
  refine Ctr.of (by decide +kernel) (Nat.le_of_ble_eq_true rfl) ?_
  intro p e s m below meth c C hw ls hl
  exact w_X7_readLine_0 C hf t0 hw hl
set_option maxHeartbeats 4000000 in
set_option maxRecDepth 20000 in
theorem w_X7_readInto_49 (C : Cx p s m args meth c D b cX7_readInto 6 RX7 (some .int)) {r : Int} {μ' : Mem} : ∀ (n : Nat) (x0 x4 x5 : Int) (μ : Mem) (H : Heap) (locs : List Loc) (ls : Array Slot), f_X7_readInto_w49 n x0 x4 x5 μ = some (r, μ') → isK x0 7 → Hw D b μ s.heap H locs → lvh b ls 6 [(0, 2, x0), (4, 0, x4), (5, 0, x5)] → W p l e (rm 69) s m args below meth c H locs 0 0 (QM below args s D b (some (.int (jI r))) μ') (F0 m 49 ls []) := by
  intro n
  induction n with
  | zero => intro x0 x4 x5 μ H locs ls hf; cases hf
  | succ n ih =>
    intro x0 x4 x5 μ H locs ls hf t0 hw hl
    rw [f_X7_readInto_w49.eq_2] at hf
    refine r_iload C hl (kx := 2) rfl dX7_readInto_49 ?_
    refine r_sipush C (by decide) dX7_readInto_51 ?_
    refine r_icmp_ge C (tgt := 84) (by decide) dX7_readInto_54 (fun c1 => ?_) (fun c1 => ?_)
    · have hf := ite_t c1 hf
      refine r_aload_n C hl (kx := 0) rfl rfl dX7_readInto_84 ?_
      refine gf_7_18 C hw t0 dX7_readInto_85 ?_
      exact r_iret C hw hf dX7_readInto_88
    · have hf := ite_f c1 hf
      refine r_iload C hl (kx := 1) rfl dX7_readInto_57 ?_
      refine r_if_eq C (tgt := 84) (by decide) dX7_readInto_59 (fun c2 => ?_) (fun c2 => ?_)
      · have hf := ite_t c2 hf
        refine r_aload_n C hl (kx := 0) rfl rfl dX7_readInto_84 ?_
        refine gf_7_18 C hw t0 dX7_readInto_85 ?_
        exact r_iret C hw hf dX7_readInto_88
      · have hf := ite_f c2 hf
        refine r_aload_n C hl (kx := 0) rfl rfl dX7_readInto_62 ?_
        refine gf_7_12 C hw t0 dX7_readInto_63 ?_
        refine gf_7_42 C hw (ow_7_0 t0) dX7_readInto_66 ?_
        refine r_if_eq C (tgt := 84) (by decide) dX7_readInto_69 (fun c3 => ?_) (fun c3 => ?_)
        · have hf := ite_t c3 hf
          refine r_aload_n C hl (kx := 0) rfl rfl dX7_readInto_84 ?_
          refine gf_7_18 C hw t0 dX7_readInto_85 ?_
          exact r_iret C hw hf dX7_readInto_88
        · have hf := ite_f c3 hf
          refine r_aload_n C hl (kx := 0) rfl rfl dX7_readInto_72 ?_
          obtain ⟨r5, μ4, e6, hf⟩ := bn_some hf
          refine r_callVv C hw (K := []) ok7 t0 (c_X7_readLine l D b t0 e6) mi_X7_readLine in_X7_readLine se_X7_readLine kl_7_45 rfl rfl (lvh_sz hl) (by decide) (Kr := []) rfl (Nat.le_of_ble_eq_true rfl) dX7_readInto_73 (fun H locs hw => ?_)
          refine r_istore C hl (by decide) (L' := [(4, 0, r5), (0, 2, x0), (5, 0, x5)]) rfl dX7_readInto_76 (fun ls hl => ?_)
          refine r_iinc C hl (kx := 2) rfl (by decide) (L' := [(5, 0, (x5 + 1)), (4, 0, r5), (0, 2, x0)]) rfl dX7_readInto_78 (fun ls hl => ?_)
          refine r_goto C (tgt := 49) (by decide) dX7_readInto_81 ?_
          exact ih _ _ _ _ _ _ _ hf t0 hw (lvh_sub hl [2, 1, 0] rfl)
set_option maxHeartbeats 4000000 in
set_option maxRecDepth 20000 in
theorem w_X7_readInto_0 (C : Cx p s m args meth c D b cX7_readInto 6 RX7 (some .int)) {r : Int} {μ' : Mem} {x0 x1 x2 x3 : Int} {μ : Mem} {H : Heap} {locs : List Loc} {ls : Array Slot} (hf : f_X7_readInto x0 x1 x2 x3 μ = some (r, μ')) (t0 : isK x0 7) (hw : Hw D b μ s.heap H locs) (hl : lvh b ls 6 [(0, 2, x0), (1, 2, x1), (2, 2, x2), (3, 0, x3)]) : W p l e (rm 69) s m args below meth c H locs 0 0 (QM below args s D b (some (.int (jI r))) μ') (F0 m 0 ls []) := by
  unfold f_X7_readInto at hf
  refine r_aload_n C hl (kx := 0) rfl rfl dX7_readInto_0 ?_
  refine r_iconst C dX7_readInto_1 ?_
  obtain ⟨μ1, e2, hf⟩ := nm_some hf
  refine pf_7_18 C hw t0 dX7_readInto_2 (fun H locs hw => ?_)
  rw [← e2] at hw
  refine r_aload_n C hl (kx := 0) rfl rfl dX7_readInto_5 ?_
  refine r_iconst C dX7_readInto_6 ?_
  obtain ⟨μ3, e4, hf⟩ := nm_some hf
  refine pf_7_22 C hw t0 dX7_readInto_7 (fun H locs hw => ?_)
  rw [← e4] at hw
  refine r_aload_n C hl (kx := 0) rfl rfl dX7_readInto_10 ?_
  refine r_aload_n C hl (kx := 1) rfl rfl dX7_readInto_11 ?_
  obtain ⟨μ5, e6, hf⟩ := nm_some hf
  refine pf_7_25 C hw t0 dX7_readInto_12 (fun H locs hw => ?_)
  rw [← e6] at hw
  refine r_aload_n C hl (kx := 0) rfl rfl dX7_readInto_15 ?_
  refine gf_7_25 C hw t0 dX7_readInto_16 ?_
  refine r_ifnonnull C (tgt := 24) (by decide) dX7_readInto_19 (fun c7 => ?_) (fun c7 => ?_)
  · have hf := ite_f c7 hf
    refine r_aload_n C hl (kx := 0) rfl rfl dX7_readInto_24 ?_
    refine gf_7_25 C hw t0 dX7_readInto_25 ?_
    obtain ⟨g8, hf⟩ := gd_some hf
    obtain ⟨r10, μ9, e11, hf⟩ := bn_some hf
    refine r_callVn C hw (K := []) ok3 g8 (c_X3_makeEmpty l D b g8 e11) mi_X3_makeEmpty in_X3_makeEmpty se_X3_makeEmpty kl_7_29 rfl rfl (lvh_sz hl) (by decide) (Kr := []) rfl (Nat.le_of_ble_eq_true rfl) dX7_readInto_28 (fun H locs hw => ?_)
    refine r_aload_n C hl (kx := 0) rfl rfl dX7_readInto_31 ?_
    refine gf_7_12 C hw t0 dX7_readInto_32 ?_
    refine r_aload_n C hl (kx := 2) rfl rfl dX7_readInto_35 ?_
    refine r_iload_n C hl (kx := 3) rfl rfl dX7_readInto_36 ?_
    obtain ⟨r13, μ12, e14, hf⟩ := bn_some hf
    refine r_callVn C hw (K := [(2, x2), (0, x3)]) ok9 (ow_7_0 t0) (c_X9_begin l D b (ow_7_0 t0) e14) mi_X9_begin in_X9_begin se_X9_begin kl_7_34 rfl rfl (lvh_sz hl) (by decide) (Kr := []) rfl (Nat.le_of_ble_eq_true rfl) dX7_readInto_37 (fun H locs hw => ?_)
    refine r_aload_n C hl (kx := 0) rfl rfl dX7_readInto_40 ?_
    obtain ⟨r16, μ15, e17, hf⟩ := bn_some hf
    refine r_callVv C hw (K := []) ok7 t0 (c_X7_readLandLine l D b t0 e17) mi_X7_readLandLine in_X7_readLandLine se_X7_readLandLine kl_7_38 rfl rfl (lvh_sz hl) (by decide) (Kr := []) rfl (Nat.le_of_ble_eq_true rfl) dX7_readInto_41 (fun H locs hw => ?_)
    refine r_istore C hl (by decide) (L' := [(4, 0, r16), (0, 2, x0), (1, 2, x1), (2, 2, x2), (3, 0, x3)]) rfl dX7_readInto_44 (fun ls hl => ?_)
    refine r_iconst C dX7_readInto_46 ?_
    refine r_istore C hl (by decide) (L' := [(5, 0, 0), (4, 0, r16), (0, 2, x0), (1, 2, x1), (2, 2, x2), (3, 0, x3)]) rfl dX7_readInto_47 (fun ls hl => ?_)
    exact w_X7_readInto_49 C FU _ _ _ _ _ _ _ hf t0 hw (lvh_sub hl [2, 1, 0] rfl)
  · have hf := ite_t c7 hf
    refine r_iconst C dX7_readInto_22 ?_
    exact r_iret C hw hf dX7_readInto_23
theorem c_X7_readInto (l : Launch) (D : Ds) (b : Nat) {x0 x1 x2 x3 : Int} {μ μ' : Mem} {r : Int} (t0 : isK x0 7) (hf : f_X7_readInto x0 x1 x2 x3 μ = some (r, μ')) : Ctr l D b yX7_readInto cX7_readInto 6 (some .int) 69 [(2, x0), (2, x1), (2, x2), (0, x3)] μ (some (.int (jI r))) μ' := by
  refine Ctr.of (by decide +kernel) (Nat.le_of_ble_eq_true rfl) ?_
  intro p e s m below meth c C hw ls hl
  exact w_X7_readInto_0 C hf t0 hw hl
set_option maxHeartbeats 4000000 in
set_option maxRecDepth 20000 in
theorem w_X7_placeOfFault_0 (C : Cx p s m args meth c D b cX7_placeOfFault 1 RX7 (some .int)) {r : Int} {μ' : Mem} {x0 : Int} {μ : Mem} {H : Heap} {locs : List Loc} {ls : Array Slot} (hf : f_X7_placeOfFault x0 μ = some (r, μ')) (t0 : isK x0 7) (hw : Hw D b μ s.heap H locs) (hl : lvh b ls 1 [(0, 2, x0)]) : W p l e (rm 0) s m args below meth c H locs 0 0 (QM below args s D b (some (.int (jI r))) μ') (F0 m 0 ls []) := by
  unfold f_X7_placeOfFault at hf
  refine r_aload_n C hl (kx := 0) rfl rfl dX7_placeOfFault_0 ?_
  refine gf_7_22 C hw t0 dX7_placeOfFault_1 ?_
  exact r_iret C hw hf dX7_placeOfFault_4
theorem c_X7_placeOfFault (l : Launch) (D : Ds) (b : Nat) {x0 : Int} {μ μ' : Mem} {r : Int} (t0 : isK x0 7) (hf : f_X7_placeOfFault x0 μ = some (r, μ')) : Ctr l D b yX7_placeOfFault cX7_placeOfFault 1 (some .int) 0 [(2, x0)] μ (some (.int (jI r))) μ' := by
  refine Ctr.of (by decide +kernel) (Nat.le_of_ble_eq_true rfl) ?_
  intro p e s m below meth c C hw ls hl
  exact w_X7_placeOfFault_0 C hf t0 hw hl
set_option maxHeartbeats 4000000 in
set_option maxRecDepth 20000 in
theorem w_X8_isOpenAt_0 (C : Cx p s m args meth c D b cX8_isOpenAt 4 RX8 (some .boolean)) {r : Int} {μ' : Mem} {x0 x1 x2 : Int} {μ : Mem} {H : Heap} {locs : List Loc} {ls : Array Slot} (hf : f_X8_isOpenAt x0 x1 x2 μ = some (r, μ')) (t0 : isK x0 8) (hw : Hw D b μ s.heap H locs) (hl : lvh b ls 4 [(0, 2, x0), (1, 0, x1), (2, 0, x2)]) : W p l e (rm 0) s m args below meth c H locs 0 0 (QM below args s D b (some (.int (jI r))) μ') (F0 m 0 ls []) := by
  unfold f_X8_isOpenAt at hf
  refine r_iload_n C hl (kx := 1) rfl rfl dX8_isOpenAt_0 ?_
  refine r_bipush C (by decide) dX8_isOpenAt_1 ?_
  refine r_imul C dX8_isOpenAt_3 ?_
  refine r_iload_n C hl (kx := 2) rfl rfl dX8_isOpenAt_4 ?_
  refine r_iadd C dX8_isOpenAt_5 ?_
  obtain ⟨v1, e2, hf⟩ := nm_some hf
  refine top_i e2 ?_
  refine r_istore_n C hl (by decide) (L' := [(3, 0, v1), (0, 2, x0), (1, 0, x1), (2, 0, x2)]) rfl rfl dX8_isOpenAt_6 (fun ls hl => ?_)
  refine r_iload_n C hl (kx := 0) rfl rfl dX8_isOpenAt_7 ?_
  refine r_if_lt C (tgt := 33) (by decide) dX8_isOpenAt_8 (fun c3 => ?_) (fun c3 => ?_)
  · have hf := ite_t c3 hf
    refine r_iconst C dX8_isOpenAt_33 ?_
    exact r_zret C hw (by decide) hf dX8_isOpenAt_34
  · have hf := ite_f c3 hf
    refine r_iload_n C hl (kx := 0) rfl rfl dX8_isOpenAt_11 ?_
    refine r_aload_n C hl (kx := 1) rfl rfl dX8_isOpenAt_12 ?_
    refine gf_8_11 C hw t0 dX8_isOpenAt_13 ?_
    refine r_alen3 C hw (n := 63) (ow_8_0 t0) (by decide) (z := 63) rfl dX8_isOpenAt_16 ?_
    refine r_icmp_ge C (tgt := 33) (by decide) dX8_isOpenAt_17 (fun c4 => ?_) (fun c4 => ?_)
    · have hf := ite_t c4 hf
      refine r_iconst C dX8_isOpenAt_33 ?_
      exact r_zret C hw (by decide) hf dX8_isOpenAt_34
    · have hf := ite_f c4 hf
      refine r_aload_n C hl (kx := 1) rfl rfl dX8_isOpenAt_20 ?_
      refine gf_8_11 C hw t0 dX8_isOpenAt_21 ?_
      refine r_iload_n C hl (kx := 0) rfl rfl dX8_isOpenAt_24 ?_
      obtain ⟨g5, hf⟩ := gd_some hf
      refine r_zald C hw (n := 63) (ow_8_0 t0) (j := (nrm v1)) rfl g5 (by decide) dX8_isOpenAt_25 ?_
      refine r_if_eq C (tgt := 33) (by decide) dX8_isOpenAt_26 (fun c6 => ?_) (fun c6 => ?_)
      · have hf := ite_t c6 hf
        refine r_iconst C dX8_isOpenAt_33 ?_
        exact r_zret C hw (by decide) hf dX8_isOpenAt_34
      · have hf := ite_f c6 hf
        refine r_iconst C dX8_isOpenAt_29 ?_
        refine r_goto C (tgt := 34) (by decide) dX8_isOpenAt_30 ?_
        exact r_zret C hw (by decide) hf dX8_isOpenAt_34
theorem c_X8_isOpenAt (l : Launch) (D : Ds) (b : Nat) {x0 x1 x2 : Int} {μ μ' : Mem} {r : Int} (t0 : isK x0 8) (hf : f_X8_isOpenAt x0 x1 x2 μ = some (r, μ')) : Ctr l D b yX8_isOpenAt cX8_isOpenAt 4 (some .boolean) 0 [(2, x0), (0, x1), (0, x2)] μ (some (.int (jI r))) μ' := by
  refine Ctr.of (by decide +kernel) (Nat.le_of_ble_eq_true rfl) ?_
  intro p e s m below meth c C hw ls hl
  exact w_X8_isOpenAt_0 C hf t0 hw hl
set_option maxHeartbeats 4000000 in
set_option maxRecDepth 20000 in
theorem w_X8_depthBehind_0 (C : Cx p s m args meth c D b cX8_depthBehind 4 RX8 (some .int)) {r : Int} {μ' : Mem} {x0 x1 x2 : Int} {μ : Mem} {H : Heap} {locs : List Loc} {ls : Array Slot} (hf : f_X8_depthBehind x0 x1 x2 μ = some (r, μ')) (t0 : isK x0 8) (hw : Hw D b μ s.heap H locs) (hl : lvh b ls 4 [(0, 2, x0), (1, 0, x1), (2, 0, x2)]) : W p l e (rm 0) s m args below meth c H locs 0 0 (QM below args s D b (some (.int (jI r))) μ') (F0 m 0 ls []) := by
  unfold f_X8_depthBehind at hf
  refine r_iload_n C hl (kx := 1) rfl rfl dX8_depthBehind_0 ?_
  refine r_bipush C (by decide) dX8_depthBehind_1 ?_
  refine r_imul C dX8_depthBehind_3 ?_
  refine r_iload_n C hl (kx := 2) rfl rfl dX8_depthBehind_4 ?_
  refine r_iadd C dX8_depthBehind_5 ?_
  obtain ⟨v1, e2, hf⟩ := nm_some hf
  refine top_i e2 ?_
  refine r_istore_n C hl (by decide) (L' := [(3, 0, v1), (0, 2, x0), (1, 0, x1), (2, 0, x2)]) rfl rfl dX8_depthBehind_6 (fun ls hl => ?_)
  refine r_iload_n C hl (kx := 0) rfl rfl dX8_depthBehind_7 ?_
  refine r_if_lt C (tgt := 29) (by decide) dX8_depthBehind_8 (fun c3 => ?_) (fun c3 => ?_)
  · have hf := ite_t c3 hf
    refine r_iload_n C hl (kx := 3) rfl rfl dX8_depthBehind_29 ?_
    exact r_iret C hw hf dX8_depthBehind_30
  · have hf := ite_f c3 hf
    refine r_iload_n C hl (kx := 0) rfl rfl dX8_depthBehind_11 ?_
    refine r_aload_n C hl (kx := 1) rfl rfl dX8_depthBehind_12 ?_
    refine gf_8_15 C hw t0 dX8_depthBehind_13 ?_
    refine r_alen1 C hw (n := 63) (ow_8_1 t0) (by decide) (z := 63) rfl dX8_depthBehind_16 ?_
    refine r_icmp_ge C (tgt := 29) (by decide) dX8_depthBehind_17 (fun c4 => ?_) (fun c4 => ?_)
    · have hf := ite_t c4 hf
      refine r_iload_n C hl (kx := 3) rfl rfl dX8_depthBehind_29 ?_
      exact r_iret C hw hf dX8_depthBehind_30
    · have hf := ite_f c4 hf
      refine r_aload_n C hl (kx := 1) rfl rfl dX8_depthBehind_20 ?_
      refine gf_8_15 C hw t0 dX8_depthBehind_21 ?_
      refine r_iload_n C hl (kx := 0) rfl rfl dX8_depthBehind_24 ?_
      obtain ⟨g5, hf⟩ := gd_some hf
      refine r_iald C hw (n := 63) (ow_8_1 t0) (j := (nrm v1)) rfl g5 (by decide) dX8_depthBehind_25 ?_
      refine r_goto C (tgt := 30) (by decide) dX8_depthBehind_26 ?_
      exact r_iret C hw hf dX8_depthBehind_30
theorem c_X8_depthBehind (l : Launch) (D : Ds) (b : Nat) {x0 x1 x2 : Int} {μ μ' : Mem} {r : Int} (t0 : isK x0 8) (hf : f_X8_depthBehind x0 x1 x2 μ = some (r, μ')) : Ctr l D b yX8_depthBehind cX8_depthBehind 4 (some .int) 0 [(2, x0), (0, x1), (0, x2)] μ (some (.int (jI r))) μ' := by
  refine Ctr.of (by decide +kernel) (Nat.le_of_ble_eq_true rfl) ?_
  intro p e s m below meth c C hw ls hl
  exact w_X8_depthBehind_0 C hf t0 hw hl
set_option maxHeartbeats 4000000 in
set_option maxRecDepth 20000 in
theorem w_X8_pairsFrom_178 (C : Cx p s m args meth c D b cX8_pairsFrom 5 RX8 (some .int)) {r : Int} {μ' : Mem} (k84 : Int → Int → Int → Int → Mem → Option (Int × Mem)) (h84 : ∀ (x0 x1 x2 x3 : Int) (μ : Mem) (H : Heap) (locs : List Loc) (ls : Array Slot), k84 x0 x1 x2 x3 μ = some (r, μ') → isK x0 8 → Hw D b μ s.heap H locs → lvh b ls 5 [(0, 2, x0), (1, 0, x1), (2, 0, x2), (3, 0, x3)] → W p l e (rm 2) s m args below meth c H locs 0 0 (QM below args s D b (some (.int (jI r))) μ') (F0 m 84 ls [])) {x0 x1 x2 x3 : Int} {μ : Mem} {H : Heap} {locs : List Loc} {ls : Array Slot} (hf : f_X8_pairsFrom_j178 k84 x0 x1 x2 x3 μ = some (r, μ')) (t0 : isK x0 8) (hw : Hw D b μ s.heap H locs) (hl : lvh b ls 5 [(0, 2, x0), (1, 0, x1), (2, 0, x2), (3, 0, x3)]) : W p l e (rm 2) s m args below meth c H locs 0 0 (QM below args s D b (some (.int (jI r))) μ') (F0 m 178 ls []) := by
  unfold f_X8_pairsFrom_j178 at hf
  refine r_iinc C hl (kx := 3) rfl (by decide) (L' := [(3, 0, (x3 + 1)), (0, 2, x0), (1, 0, x1), (2, 0, x2)]) rfl dX8_pairsFrom_178 (fun ls hl => ?_)
  refine r_goto C (tgt := 84) (by decide) dX8_pairsFrom_181 ?_
  exact h84 _ _ _ _ _ _ _ _ hf t0 hw (lvh_sub hl [1, 2, 3, 0] rfl)
set_option maxHeartbeats 4000000 in
set_option maxRecDepth 20000 in
theorem w_X8_pairsFrom_84 (C : Cx p s m args meth c D b cX8_pairsFrom 5 RX8 (some .int)) {r : Int} {μ' : Mem} : ∀ (n : Nat) (x0 x1 x2 x3 : Int) (μ : Mem) (H : Heap) (locs : List Loc) (ls : Array Slot), f_X8_pairsFrom_w84 n x0 x1 x2 x3 μ = some (r, μ') → isK x0 8 → Hw D b μ s.heap H locs → lvh b ls 5 [(0, 2, x0), (1, 0, x1), (2, 0, x2), (3, 0, x3)] → W p l e (rm 2) s m args below meth c H locs 0 0 (QM below args s D b (some (.int (jI r))) μ') (F0 m 84 ls []) := by
  intro n
  induction n with
  | zero => intro x0 x1 x2 x3 μ H locs ls hf; cases hf
  | succ n ih =>
    intro x0 x1 x2 x3 μ H locs ls hf t0 hw hl
    rw [f_X8_pairsFrom_w84.eq_2] at hf
    refine r_iload_n C hl (kx := 3) rfl rfl dX8_pairsFrom_84 ?_
    refine r_aload_n C hl (kx := 0) rfl rfl dX8_pairsFrom_85 ?_
    refine gf_8_31 C hw t0 dX8_pairsFrom_86 ?_
    obtain ⟨g1, hf⟩ := gd_some hf
    refine gf_8_72 C hw g1 dX8_pairsFrom_89 ?_
    refine r_icmp_ge C (tgt := 184) (by decide) dX8_pairsFrom_92 (fun c2 => ?_) (fun c2 => ?_)
    · have hf := ite_t c2 hf
      refine r_iload_n C hl (kx := 2) rfl rfl dX8_pairsFrom_184 ?_
      exact r_iret C hw hf dX8_pairsFrom_185
    · have hf := ite_f c2 hf
      refine r_iload_n C hl (kx := 3) rfl rfl dX8_pairsFrom_95 ?_
      refine r_bipush C (by decide) dX8_pairsFrom_96 ?_
      refine r_icmp_ge C (tgt := 184) (by decide) dX8_pairsFrom_98 (fun c3 => ?_) (fun c3 => ?_)
      · have hf := ite_t c3 hf
        refine r_iload_n C hl (kx := 2) rfl rfl dX8_pairsFrom_184 ?_
        exact r_iret C hw hf dX8_pairsFrom_185
      · have hf := ite_f c3 hf
        refine r_aload_n C hl (kx := 0) rfl rfl dX8_pairsFrom_101 ?_
        refine gf_8_31 C hw t0 dX8_pairsFrom_102 ?_
        refine r_iload_n C hl (kx := 3) rfl rfl dX8_pairsFrom_105 ?_
        refine r_iload_n C hl (kx := 1) rfl rfl dX8_pairsFrom_106 ?_
        obtain ⟨r5, μ4, e6, hf⟩ := bn_some hf
        refine r_callVv C hw (K := [(0, x3), (0, x1)]) ok3 g1 (c_X3_otherEnd l D b g1 e6) mi_X3_otherEnd in_X3_otherEnd se_X3_otherEnd kl_8_75 rfl rfl (lvh_sz hl) (by decide) (Kr := []) rfl (Nat.le_of_ble_eq_true rfl) dX8_pairsFrom_107 (fun H locs hw => ?_)
        refine r_istore C hl (by decide) (L' := [(4, 0, r5), (0, 2, x0), (1, 0, x1), (2, 0, x2), (3, 0, x3)]) rfl dX8_pairsFrom_110 (fun ls hl => ?_)
        refine r_iload C hl (kx := 0) rfl dX8_pairsFrom_112 ?_
        refine r_if_lt C (tgt := 178) (by decide) dX8_pairsFrom_114 (fun c7 => ?_) (fun c7 => ?_)
        · have hf := ite_t c7 hf
          exact w_X8_pairsFrom_178 C _ ih hf t0 hw (lvh_sub hl [1, 2, 3, 4] rfl)
        · have hf := ite_f c7 hf
          refine r_iload C hl (kx := 0) rfl dX8_pairsFrom_117 ?_
          refine r_bipush C (by decide) dX8_pairsFrom_119 ?_
          refine r_icmp_ge C (tgt := 178) (by decide) dX8_pairsFrom_121 (fun c8 => ?_) (fun c8 => ?_)
          · have hf := ite_t c8 hf
            exact w_X8_pairsFrom_178 C _ ih hf t0 hw (lvh_sub hl [1, 2, 3, 4] rfl)
          · have hf := ite_f c8 hf
            refine r_aload_n C hl (kx := 1) rfl rfl dX8_pairsFrom_124 ?_
            refine r_iload_n C hl (kx := 4) rfl rfl dX8_pairsFrom_125 ?_
            refine r_aload_n C hl (kx := 1) rfl rfl dX8_pairsFrom_126 ?_
            refine gf_8_19 C hw t0 dX8_pairsFrom_127 ?_
            refine r_iload_n C hl (kx := 4) rfl rfl dX8_pairsFrom_130 ?_
            obtain ⟨g9, hf⟩ := gd_some hf
            refine r_iald C hw (n := 9) (ow_8_2 t0) (j := (nrm x3)) rfl g9 (by decide) dX8_pairsFrom_131 ?_
            obtain ⟨r11, μ10, e12, hf⟩ := bn_some hf
            refine r_callVv C hw (K := [(0, x3), (0, (μ4 (x0 + 3) (nrm x3)))]) ok8 t0 (c_X8_isOpenAt l D b t0 e12) mi_X8_isOpenAt in_X8_isOpenAt se_X8_isOpenAt kl_8_78 rfl rfl (lvh_sz hl) (by decide) (Kr := []) rfl (Nat.le_of_ble_eq_true rfl) dX8_pairsFrom_132 (fun H locs hw => ?_)
            refine r_if_eq C (tgt := 178) (by decide) dX8_pairsFrom_135 (fun c13 => ?_) (fun c13 => ?_)
            · have hf := ite_t c13 hf
              exact w_X8_pairsFrom_178 C _ ih hf t0 hw (lvh_sub hl [1, 2, 3, 4] rfl)
            · have hf := ite_f c13 hf
              refine r_iload_n C hl (kx := 3) rfl rfl dX8_pairsFrom_138 ?_
              refine r_aload_n C hl (kx := 1) rfl rfl dX8_pairsFrom_139 ?_
              refine gf_8_22 C hw t0 dX8_pairsFrom_140 ?_
              refine r_iload C hl (kx := 0) rfl dX8_pairsFrom_143 ?_
              obtain ⟨g14, hf⟩ := gd_some hf
              refine r_iald C hw (n := 7) (ow_8_3 t0) (j := (nrm r5)) rfl g14 (by decide) dX8_pairsFrom_145 ?_
              refine r_iadd C dX8_pairsFrom_146 ?_
              obtain ⟨v15, e16, hf⟩ := nm_some hf
              refine top_i e16 ?_
              refine r_istore_n C hl (by decide) (L' := [(2, 0, v15), (4, 0, r5), (0, 2, x0), (1, 0, x1), (3, 0, x3)]) rfl rfl dX8_pairsFrom_147 (fun ls hl => ?_)
              refine r_iload_n C hl (kx := 3) rfl rfl dX8_pairsFrom_148 ?_
              refine r_aload_n C hl (kx := 2) rfl rfl dX8_pairsFrom_149 ?_
              refine gf_8_36 C hw t0 dX8_pairsFrom_150 ?_
              refine r_icmp_ne C (tgt := 178) (by decide) dX8_pairsFrom_153 (fun c17 => ?_) (fun c17 => ?_)
              · have hf := ite_f c17 hf
                exact w_X8_pairsFrom_178 C _ ih hf t0 hw (lvh_sub hl [2, 3, 0, 4] rfl)
              · have hf := ite_t c17 hf
                refine r_aload_n C hl (kx := 2) rfl rfl dX8_pairsFrom_156 ?_
                refine r_iload_n C hl (kx := 4) rfl rfl dX8_pairsFrom_157 ?_
                refine r_aload_n C hl (kx := 2) rfl rfl dX8_pairsFrom_158 ?_
                refine r_iload_n C hl (kx := 4) rfl rfl dX8_pairsFrom_159 ?_
                refine r_aload_n C hl (kx := 2) rfl rfl dX8_pairsFrom_160 ?_
                refine gf_8_19 C hw t0 dX8_pairsFrom_161 ?_
                refine r_iload_n C hl (kx := 4) rfl rfl dX8_pairsFrom_164 ?_
                obtain ⟨g18, hf⟩ := gd_some hf
                refine r_iald C hw (n := 9) (ow_8_2 t0) (j := (nrm x3)) rfl g18 (by decide) dX8_pairsFrom_165 ?_
                obtain ⟨r20, μ19, e21, hf⟩ := bn_some hf
                refine r_callVv C hw (K := [(0, x3), (0, (μ10 (x0 + 3) (nrm x3)))]) ok8 t0 (c_X8_depthBehind l D b t0 e21) mi_X8_depthBehind in_X8_depthBehind se_X8_depthBehind kl_8_82 rfl rfl (lvh_sz hl) (by decide) (Kr := [(0, x3), (2, x0)]) rfl (Nat.le_of_ble_eq_true rfl) dX8_pairsFrom_166 (fun H locs hw => ?_)
                obtain ⟨r23, μ22, e24, hf⟩ := bn_some hf
                refine r_callVv C hw (K := [(0, x3), (0, r20)]) ok8 t0 (c_X8_isOpenAt l D b t0 e24) mi_X8_isOpenAt in_X8_isOpenAt se_X8_isOpenAt kl_8_78 rfl rfl (lvh_sz hl) (by decide) (Kr := []) rfl (Nat.le_of_ble_eq_true rfl) dX8_pairsFrom_169 (fun H locs hw => ?_)
                refine r_if_ne C (tgt := 178) (by decide) dX8_pairsFrom_172 (fun c25 => ?_) (fun c25 => ?_)
                · have hf := ite_f c25 hf
                  exact w_X8_pairsFrom_178 C _ ih hf t0 hw (lvh_sub hl [2, 3, 0, 4] rfl)
                · have hf := ite_t c25 hf
                  refine r_iinc C hl (kx := 0) rfl (by decide) (L' := [(2, 0, (v15 + (-1))), (4, 0, r5), (0, 2, x0), (1, 0, x1), (3, 0, x3)]) rfl dX8_pairsFrom_175 (fun ls hl => ?_)
                  exact w_X8_pairsFrom_178 C _ ih hf t0 hw (lvh_sub hl [2, 3, 0, 4] rfl)
set_option maxHeartbeats 4000000 in
set_option maxRecDepth 20000 in
theorem w_X8_pairsFrom_80 (C : Cx p s m args meth c D b cX8_pairsFrom 5 RX8 (some .int)) {r : Int} {μ' : Mem} {x0 x1 : Int} {μ : Mem} {H : Heap} {locs : List Loc} {ls : Array Slot} (hf : f_X8_pairsFrom_j80 x0 x1 μ = some (r, μ')) (t0 : isK x0 8) (hw : Hw D b μ s.heap H locs) (hl : lvh b ls 5 [(0, 2, x0), (1, 0, x1)]) : W p l e (rm 2) s m args below meth c H locs 0 0 (QM below args s D b (some (.int (jI r))) μ') (F0 m 80 ls []) := by
  unfold f_X8_pairsFrom_j80 at hf
  refine r_iconst C dX8_pairsFrom_80 ?_
  refine r_istore_n C hl (by decide) (L' := [(2, 0, 0), (0, 2, x0), (1, 0, x1)]) rfl rfl dX8_pairsFrom_81 (fun ls hl => ?_)
  refine r_iconst C dX8_pairsFrom_82 ?_
  refine r_istore_n C hl (by decide) (L' := [(3, 0, 0), (2, 0, 0), (0, 2, x0), (1, 0, x1)]) rfl rfl dX8_pairsFrom_83 (fun ls hl => ?_)
  exact w_X8_pairsFrom_84 C FU _ _ _ _ _ _ _ _ hf t0 hw (lvh_sub hl [2, 3, 1, 0] rfl)
set_option maxHeartbeats 4000000 in
set_option maxRecDepth 20000 in
theorem w_X8_pairsFrom_74 (C : Cx p s m args meth c D b cX8_pairsFrom 5 RX8 (some .int)) {r : Int} {μ' : Mem} (k10 : Int → Int → Int → Mem → Option (Int × Mem)) (h10 : ∀ (x0 x1 x2 : Int) (μ : Mem) (H : Heap) (locs : List Loc) (ls : Array Slot), k10 x0 x1 x2 μ = some (r, μ') → isK x0 8 → Hw D b μ s.heap H locs → lvh b ls 5 [(0, 2, x0), (1, 0, x1), (2, 0, x2)] → W p l e (rm 2) s m args below meth c H locs 0 0 (QM below args s D b (some (.int (jI r))) μ') (F0 m 10 ls [])) {x0 x1 x2 : Int} {μ : Mem} {H : Heap} {locs : List Loc} {ls : Array Slot} (hf : f_X8_pairsFrom_j74 k10 x0 x1 x2 μ = some (r, μ')) (t0 : isK x0 8) (hw : Hw D b μ s.heap H locs) (hl : lvh b ls 5 [(0, 2, x0), (1, 0, x1), (2, 0, x2)]) : W p l e (rm 2) s m args below meth c H locs 0 0 (QM below args s D b (some (.int (jI r))) μ') (F0 m 74 ls []) := by
  unfold f_X8_pairsFrom_j74 at hf
  refine r_iinc C hl (kx := 2) rfl (by decide) (L' := [(2, 0, (x2 + 1)), (0, 2, x0), (1, 0, x1)]) rfl dX8_pairsFrom_74 (fun ls hl => ?_)
  refine r_goto C (tgt := 10) (by decide) dX8_pairsFrom_77 ?_
  exact h10 _ _ _ _ _ _ _ hf t0 hw (lvh_sub hl [1, 2, 0] rfl)
set_option maxHeartbeats 4000000 in
set_option maxRecDepth 20000 in
theorem w_X8_pairsFrom_10 (C : Cx p s m args meth c D b cX8_pairsFrom 5 RX8 (some .int)) {r : Int} {μ' : Mem} : ∀ (n : Nat) (x0 x1 x2 : Int) (μ : Mem) (H : Heap) (locs : List Loc) (ls : Array Slot), f_X8_pairsFrom_w10 n x0 x1 x2 μ = some (r, μ') → isK x0 8 → Hw D b μ s.heap H locs → lvh b ls 5 [(0, 2, x0), (1, 0, x1), (2, 0, x2)] → W p l e (rm 2) s m args below meth c H locs 0 0 (QM below args s D b (some (.int (jI r))) μ') (F0 m 10 ls []) := by
  intro n
  induction n with
  | zero => intro x0 x1 x2 μ H locs ls hf; cases hf
  | succ n ih =>
    intro x0 x1 x2 μ H locs ls hf t0 hw hl
    rw [f_X8_pairsFrom_w10.eq_2] at hf
    refine r_iload_n C hl (kx := 2) rfl rfl dX8_pairsFrom_10 ?_
    refine r_aload_n C hl (kx := 0) rfl rfl dX8_pairsFrom_11 ?_
    refine gf_8_31 C hw t0 dX8_pairsFrom_12 ?_
    obtain ⟨g1, hf⟩ := gd_some hf
    refine gf_8_72 C hw g1 dX8_pairsFrom_15 ?_
    refine r_icmp_ge C (tgt := 80) (by decide) dX8_pairsFrom_18 (fun c2 => ?_) (fun c2 => ?_)
    · have hf := ite_t c2 hf
      exact w_X8_pairsFrom_80 C hf t0 hw (lvh_sub hl [0, 1] rfl)
    · have hf := ite_f c2 hf
      refine r_iload_n C hl (kx := 2) rfl rfl dX8_pairsFrom_21 ?_
      refine r_bipush C (by decide) dX8_pairsFrom_22 ?_
      refine r_icmp_ge C (tgt := 80) (by decide) dX8_pairsFrom_24 (fun c3 => ?_) (fun c3 => ?_)
      · have hf := ite_t c3 hf
        exact w_X8_pairsFrom_80 C hf t0 hw (lvh_sub hl [0, 1] rfl)
      · have hf := ite_f c3 hf
        refine r_aload_n C hl (kx := 0) rfl rfl dX8_pairsFrom_27 ?_
        refine gf_8_31 C hw t0 dX8_pairsFrom_28 ?_
        refine r_iload_n C hl (kx := 2) rfl rfl dX8_pairsFrom_31 ?_
        refine r_aload_n C hl (kx := 0) rfl rfl dX8_pairsFrom_32 ?_
        refine gf_8_36 C hw t0 dX8_pairsFrom_33 ?_
        obtain ⟨r5, μ4, e6, hf⟩ := bn_some hf
        refine r_callVv C hw (K := [(0, x2), (0, (μ x0 6))]) ok3 g1 (c_X3_otherEnd l D b g1 e6) mi_X3_otherEnd in_X3_otherEnd se_X3_otherEnd kl_8_75 rfl rfl (lvh_sz hl) (by decide) (Kr := []) rfl (Nat.le_of_ble_eq_true rfl) dX8_pairsFrom_36 (fun H locs hw => ?_)
        refine r_istore_n C hl (by decide) (L' := [(3, 0, r5), (0, 2, x0), (1, 0, x1), (2, 0, x2)]) rfl rfl dX8_pairsFrom_39 (fun ls hl => ?_)
        refine r_iload_n C hl (kx := 0) rfl rfl dX8_pairsFrom_40 ?_
        refine r_if_lt C (tgt := 74) (by decide) dX8_pairsFrom_41 (fun c7 => ?_) (fun c7 => ?_)
        · have hf := ite_t c7 hf
          exact w_X8_pairsFrom_74 C _ ih hf t0 hw (lvh_sub hl [1, 2, 3] rfl)
        · have hf := ite_f c7 hf
          refine r_iload_n C hl (kx := 0) rfl rfl dX8_pairsFrom_44 ?_
          refine r_bipush C (by decide) dX8_pairsFrom_45 ?_
          refine r_icmp_ge C (tgt := 74) (by decide) dX8_pairsFrom_47 (fun c8 => ?_) (fun c8 => ?_)
          · have hf := ite_t c8 hf
            exact w_X8_pairsFrom_74 C _ ih hf t0 hw (lvh_sub hl [1, 2, 3] rfl)
          · have hf := ite_f c8 hf
            refine r_aload_n C hl (kx := 1) rfl rfl dX8_pairsFrom_50 ?_
            refine r_iload_n C hl (kx := 3) rfl rfl dX8_pairsFrom_51 ?_
            refine r_aload_n C hl (kx := 1) rfl rfl dX8_pairsFrom_52 ?_
            refine gf_8_19 C hw t0 dX8_pairsFrom_53 ?_
            refine r_iload_n C hl (kx := 3) rfl rfl dX8_pairsFrom_56 ?_
            obtain ⟨g9, hf⟩ := gd_some hf
            refine r_iald C hw (n := 9) (ow_8_2 t0) (j := (nrm x2)) rfl g9 (by decide) dX8_pairsFrom_57 ?_
            obtain ⟨r11, μ10, e12, hf⟩ := bn_some hf
            refine r_callVv C hw (K := [(0, x2), (0, (μ4 (x0 + 3) (nrm x2)))]) ok8 t0 (c_X8_isOpenAt l D b t0 e12) mi_X8_isOpenAt in_X8_isOpenAt se_X8_isOpenAt kl_8_78 rfl rfl (lvh_sz hl) (by decide) (Kr := []) rfl (Nat.le_of_ble_eq_true rfl) dX8_pairsFrom_58 (fun H locs hw => ?_)
            refine r_if_eq C (tgt := 74) (by decide) dX8_pairsFrom_61 (fun c13 => ?_) (fun c13 => ?_)
            · have hf := ite_t c13 hf
              exact w_X8_pairsFrom_74 C _ ih hf t0 hw (lvh_sub hl [1, 2, 3] rfl)
            · have hf := ite_f c13 hf
              refine r_aload_n C hl (kx := 1) rfl rfl dX8_pairsFrom_64 ?_
              refine gf_8_22 C hw t0 dX8_pairsFrom_65 ?_
              refine r_iload_n C hl (kx := 0) rfl rfl dX8_pairsFrom_68 ?_
              refine r_dup2 C rfl (rfv_cat _ _) dX8_pairsFrom_69 ?_
              obtain ⟨g14, hf⟩ := gd_some hf
              refine r_iald C hw (n := 7) (ow_8_3 t0) (j := (nrm r5)) rfl g14 (by decide) dX8_pairsFrom_70 ?_
              refine r_iconst C dX8_pairsFrom_71 ?_
              refine r_iadd C dX8_pairsFrom_72 ?_
              obtain ⟨g17, hf⟩ := gd_some hf
              obtain ⟨μ15, e16, hf⟩ := nm_some hf
              refine r_iast C hw (n := 7) (ow_8_3 t0) (j := (nrm r5)) rfl g17 (by decide) dX8_pairsFrom_73 (fun H locs hw => ?_)
              rw [← e16] at hw
              exact w_X8_pairsFrom_74 C _ ih hf t0 hw (lvh_sub hl [1, 2, 3] rfl)
set_option maxHeartbeats 4000000 in
set_option maxRecDepth 20000 in
theorem w_X8_pairsFrom_0 (C : Cx p s m args meth c D b cX8_pairsFrom 5 RX8 (some .int)) {r : Int} {μ' : Mem} {x0 x1 : Int} {μ : Mem} {H : Heap} {locs : List Loc} {ls : Array Slot} (hf : f_X8_pairsFrom x0 x1 μ = some (r, μ')) (t0 : isK x0 8) (hw : Hw D b μ s.heap H locs) (hl : lvh b ls 5 [(0, 2, x0), (1, 0, x1)]) : W p l e (rm 2) s m args below meth c H locs 0 0 (QM below args s D b (some (.int (jI r))) μ') (F0 m 0 ls []) := by
  unfold f_X8_pairsFrom at hf
  refine r_aload_n C hl (kx := 0) rfl rfl dX8_pairsFrom_0 ?_
  refine gf_8_22 C hw t0 dX8_pairsFrom_1 ?_
  refine r_iconst C dX8_pairsFrom_4 ?_
  obtain ⟨r2, μ1, e3, hf⟩ := bn_some hf
  refine r_callSn C hw (K := [(2, (x0 + 4)), (0, 0)]) (c_J7_fill_53178 l D b e3) mi_J7_fill_53178 st_J7_fill_53178 kl_8_85 rfl rfl (lvh_sz hl) (by decide) (Kr := []) rfl (Nat.le_of_ble_eq_true rfl) dX8_pairsFrom_5 (fun H locs hw => ?_)
  refine r_iconst C dX8_pairsFrom_8 ?_
  refine r_istore_n C hl (by decide) (L' := [(2, 0, 0), (0, 2, x0), (1, 0, x1)]) rfl rfl dX8_pairsFrom_9 (fun ls hl => ?_)
  exact w_X8_pairsFrom_10 C FU _ _ _ _ _ _ _ hf t0 hw (lvh_sub hl [1, 2, 0] rfl)
theorem c_X8_pairsFrom (l : Launch) (D : Ds) (b : Nat) {x0 x1 : Int} {μ μ' : Mem} {r : Int} (t0 : isK x0 8) (hf : f_X8_pairsFrom x0 x1 μ = some (r, μ')) : Ctr l D b yX8_pairsFrom cX8_pairsFrom 5 (some .int) 2 [(2, x0), (0, x1)] μ (some (.int (jI r))) μ' := by
  refine Ctr.of (by decide +kernel) (Nat.le_of_ble_eq_true rfl) ?_
  intro p e s m below meth c C hw ls hl
  exact w_X8_pairsFrom_0 C hf t0 hw hl
set_option maxHeartbeats 4000000 in
set_option maxRecDepth 20000 in
theorem w_X8_rowsFrom_145 (C : Cx p s m args meth c D b cX8_rowsFrom 8 RX8 (some .int)) {r : Int} {μ' : Mem} (rec : Nat → Int → Int → Int → Mem → Option (Int × Mem)) (h_0 : ∀ (x0 x1 x2 : Int) (μ μ' : Mem) (r : Int), isK x0 8 → rec 0 x0 x1 x2 μ = some (r, μ') → Ctr l D b yX8_rowsFrom cX8_rowsFrom 8 (some .int) (n0 + 3) [(2, x0), (0, x1), (0, x2)] μ (some (.int (jI r))) μ') (k50 : Int → Int → Int → Int → Int → Mem → Option (Int × Mem)) (h50 : ∀ (x0 x1 x2 x4 x5 : Int) (μ : Mem) (H : Heap) (locs : List Loc) (ls : Array Slot), k50 x0 x1 x2 x4 x5 μ = some (r, μ') → isK x0 8 → Hw D b μ s.heap H locs → lvh b ls 8 [(0, 2, x0), (1, 0, x1), (2, 0, x2), (4, 0, x4), (5, 0, x5)] → W p l e (rm (n0 + 1 + 3)) s m args below meth c H locs 0 0 (QM below args s D b (some (.int (jI r))) μ') (F0 m 50 ls [])) {x0 x1 x2 x4 x5 : Int} {μ : Mem} {H : Heap} {locs : List Loc} {ls : Array Slot} (hf : f_X8_rowsFrom_j145 rec k50 x0 x1 x2 x4 x5 μ = some (r, μ')) (t0 : isK x0 8) (hw : Hw D b μ s.heap H locs) (hl : lvh b ls 8 [(0, 2, x0), (1, 0, x1), (2, 0, x2), (4, 0, x4), (5, 0, x5)]) : W p l e (rm (n0 + 1 + 3)) s m args below meth c H locs 0 0 (QM below args s D b (some (.int (jI r))) μ') (F0 m 145 ls []) := by
  unfold f_X8_rowsFrom_j145 at hf
  refine r_iinc C hl (kx := 4) rfl (by decide) (L' := [(5, 0, (x5 + 1)), (0, 2, x0), (1, 0, x1), (2, 0, x2), (4, 0, x4)]) rfl dX8_rowsFrom_145 (fun ls hl => ?_)
  refine r_goto C (tgt := 50) (by decide) dX8_rowsFrom_148 ?_
  exact h50 _ _ _ _ _ _ _ _ _ hf t0 hw (lvh_sub hl [1, 2, 3, 4, 0] rfl)
set_option maxHeartbeats 4000000 in
set_option maxRecDepth 20000 in
theorem w_X8_rowsFrom_50 (C : Cx p s m args meth c D b cX8_rowsFrom 8 RX8 (some .int)) {r : Int} {μ' : Mem} (rec : Nat → Int → Int → Int → Mem → Option (Int × Mem)) (h_0 : ∀ (x0 x1 x2 : Int) (μ μ' : Mem) (r : Int), isK x0 8 → rec 0 x0 x1 x2 μ = some (r, μ') → Ctr l D b yX8_rowsFrom cX8_rowsFrom 8 (some .int) (n0 + 3) [(2, x0), (0, x1), (0, x2)] μ (some (.int (jI r))) μ') : ∀ (n : Nat) (x0 x1 x2 x4 x5 : Int) (μ : Mem) (H : Heap) (locs : List Loc) (ls : Array Slot), f_X8_rowsFrom_w50 rec n x0 x1 x2 x4 x5 μ = some (r, μ') → isK x0 8 → Hw D b μ s.heap H locs → lvh b ls 8 [(0, 2, x0), (1, 0, x1), (2, 0, x2), (4, 0, x4), (5, 0, x5)] → W p l e (rm (n0 + 1 + 3)) s m args below meth c H locs 0 0 (QM below args s D b (some (.int (jI r))) μ') (F0 m 50 ls []) := by
  intro n
  induction n with
  | zero => intro x0 x1 x2 x4 x5 μ H locs ls hf; cases hf
  | succ n ih =>
    intro x0 x1 x2 x4 x5 μ H locs ls hf t0 hw hl
    rw [f_X8_rowsFrom_w50.eq_2] at hf
    refine r_iload C hl (kx := 4) rfl dX8_rowsFrom_50 ?_
    refine r_aload_n C hl (kx := 0) rfl rfl dX8_rowsFrom_52 ?_
    refine gf_8_31 C hw t0 dX8_rowsFrom_53 ?_
    obtain ⟨g1, hf⟩ := gd_some hf
    refine gf_8_72 C hw g1 dX8_rowsFrom_56 ?_
    refine r_icmp_ge C (tgt := 151) (by decide) dX8_rowsFrom_59 (fun c2 => ?_) (fun c2 => ?_)
    · have hf := ite_t c2 hf
      refine r_iload C hl (kx := 3) rfl dX8_rowsFrom_151 ?_
      exact r_iret C hw hf dX8_rowsFrom_153
    · have hf := ite_f c2 hf
      refine r_iload C hl (kx := 4) rfl dX8_rowsFrom_62 ?_
      refine r_bipush C (by decide) dX8_rowsFrom_64 ?_
      refine r_icmp_ge C (tgt := 151) (by decide) dX8_rowsFrom_66 (fun c3 => ?_) (fun c3 => ?_)
      · have hf := ite_t c3 hf
        refine r_iload C hl (kx := 3) rfl dX8_rowsFrom_151 ?_
        exact r_iret C hw hf dX8_rowsFrom_153
      · have hf := ite_f c3 hf
        refine r_aload_n C hl (kx := 0) rfl rfl dX8_rowsFrom_69 ?_
        refine gf_8_31 C hw t0 dX8_rowsFrom_70 ?_
        refine r_iload C hl (kx := 4) rfl dX8_rowsFrom_73 ?_
        refine r_iload_n C hl (kx := 1) rfl rfl dX8_rowsFrom_75 ?_
        obtain ⟨r5, μ4, e6, hf⟩ := bn_some hf
        refine r_callVv C hw (K := [(0, x5), (0, x1)]) ok3 g1 (c_X3_otherEnd l D b g1 e6) mi_X3_otherEnd in_X3_otherEnd se_X3_otherEnd kl_8_75 rfl rfl (lvh_sz hl) ⟨by simp only [rm]; omega, by simp only [rm]; omega⟩ (Kr := []) rfl (Nat.le_of_ble_eq_true rfl) dX8_rowsFrom_76 (fun H locs hw => ?_)
        refine r_istore C hl (by decide) (L' := [(6, 0, r5), (0, 2, x0), (1, 0, x1), (2, 0, x2), (4, 0, x4), (5, 0, x5)]) rfl dX8_rowsFrom_79 (fun ls hl => ?_)
        refine r_aload_n C hl (kx := 1) rfl rfl dX8_rowsFrom_81 ?_
        refine gf_8_19 C hw t0 dX8_rowsFrom_82 ?_
        refine r_iload C hl (kx := 5) rfl dX8_rowsFrom_85 ?_
        obtain ⟨g7, hf⟩ := gd_some hf
        refine r_iald C hw (n := 9) (ow_8_2 t0) (j := (nrm x5)) rfl g7 (by decide) dX8_rowsFrom_87 ?_
        obtain ⟨v8, e9, hf⟩ := nm_some hf
        refine top_i e9 ?_
        refine r_istore C hl (by decide) (L' := [(7, 0, v8), (6, 0, r5), (0, 2, x0), (1, 0, x1), (2, 0, x2), (4, 0, x4), (5, 0, x5)]) rfl dX8_rowsFrom_88 (fun ls hl => ?_)
        refine r_iload C hl (kx := 1) rfl dX8_rowsFrom_90 ?_
        refine r_iconst C dX8_rowsFrom_92 ?_
        refine r_icmp_eq C (tgt := 145) (by decide) dX8_rowsFrom_93 (fun c10 => ?_) (fun c10 => ?_)
        · have hf := ite_t c10 hf
          exact w_X8_rowsFrom_145 C _ h_0 _ ih hf t0 hw (lvh_sub hl [2, 3, 4, 5, 6] rfl)
        · have hf := ite_f c10 hf
          refine r_aload_n C hl (kx := 2) rfl rfl dX8_rowsFrom_96 ?_
          refine r_iload C hl (kx := 6) rfl dX8_rowsFrom_97 ?_
          refine r_iload C hl (kx := 0) rfl dX8_rowsFrom_99 ?_
          obtain ⟨r12, μ11, e13, hf⟩ := bn_some hf
          refine r_callVv C hw (K := [(0, x5), (0, v8)]) ok8 t0 (c_X8_isOpenAt l D b t0 e13) mi_X8_isOpenAt in_X8_isOpenAt se_X8_isOpenAt kl_8_78 rfl rfl (lvh_sz hl) ⟨by simp only [rm]; omega, by simp only [rm]; omega⟩ (Kr := []) rfl (Nat.le_of_ble_eq_true rfl) dX8_rowsFrom_101 (fun H locs hw => ?_)
          refine r_if_eq C (tgt := 145) (by decide) dX8_rowsFrom_104 (fun c14 => ?_) (fun c14 => ?_)
          · have hf := ite_t c14 hf
            exact w_X8_rowsFrom_145 C _ h_0 _ ih hf t0 hw (lvh_sub hl [2, 3, 4, 5, 6] rfl)
          · have hf := ite_f c14 hf
            refine r_aload_n C hl (kx := 2) rfl rfl dX8_rowsFrom_107 ?_
            refine gf_8_19 C hw t0 dX8_rowsFrom_108 ?_
            refine r_iload C hl (kx := 6) rfl dX8_rowsFrom_111 ?_
            refine r_aload_n C hl (kx := 2) rfl rfl dX8_rowsFrom_113 ?_
            refine r_iload C hl (kx := 6) rfl dX8_rowsFrom_114 ?_
            refine r_iload C hl (kx := 0) rfl dX8_rowsFrom_116 ?_
            obtain ⟨r16, μ15, e17, hf⟩ := bn_some hf
            refine r_callVv C hw (K := [(0, x5), (0, v8)]) ok8 t0 (c_X8_depthBehind l D b t0 e17) mi_X8_depthBehind in_X8_depthBehind se_X8_depthBehind kl_8_82 rfl rfl (lvh_sz hl) ⟨by simp only [rm]; omega, by simp only [rm]; omega⟩ (Kr := [(0, x5), (2, (x0 + 3))]) rfl (Nat.le_of_ble_eq_true rfl) dX8_rowsFrom_118 (fun H locs hw => ?_)
            obtain ⟨g20, hf⟩ := gd_some hf
            obtain ⟨μ18, e19, hf⟩ := nm_some hf
            refine r_iast C hw (n := 9) (ow_8_2 t0) (j := (nrm x5)) rfl g20 (by decide) dX8_rowsFrom_121 (fun H locs hw => ?_)
            rw [← e19] at hw
            refine r_iload C hl (kx := 5) rfl dX8_rowsFrom_122 ?_
            refine r_aload_n C hl (kx := 2) rfl rfl dX8_rowsFrom_124 ?_
            refine r_iload C hl (kx := 1) rfl dX8_rowsFrom_125 ?_
            refine r_iload_n C hl (kx := 4) rfl rfl dX8_rowsFrom_127 ?_
            refine r_iconst C dX8_rowsFrom_128 ?_
            refine r_isub C dX8_rowsFrom_129 ?_
            obtain ⟨r22, μ21, e23, hf⟩ := bn_some hf
            refine r_callVv C hw (K := [(0, r5), (0, (x2 - 1))]) ok8 t0 (h_0 _ _ _ _ _ _ t0 e23) mi_X8_rowsFrom in_X8_rowsFrom se_X8_rowsFrom kl_8_60 rfl rfl (lvh_sz hl) ⟨by simp only [rm]; omega, by simp only [rm]; omega⟩ (Kr := [(0, x4)]) rfl (Nat.le_of_ble_eq_true rfl) dX8_rowsFrom_130 (fun H locs hw => ?_)
            refine r_iadd C dX8_rowsFrom_133 ?_
            obtain ⟨v24, e25, hf⟩ := nm_some hf
            refine top_i e25 ?_
            refine r_istore C hl (by decide) (L' := [(4, 0, v24), (7, 0, v8), (6, 0, r5), (0, 2, x0), (1, 0, x1), (2, 0, x2), (5, 0, x5)]) rfl dX8_rowsFrom_134 (fun ls hl => ?_)
            refine r_aload_n C hl (kx := 3) rfl rfl dX8_rowsFrom_136 ?_
            refine gf_8_19 C hw t0 dX8_rowsFrom_137 ?_
            refine r_iload C hl (kx := 6) rfl dX8_rowsFrom_140 ?_
            refine r_iload C hl (kx := 1) rfl dX8_rowsFrom_142 ?_
            obtain ⟨g28, hf⟩ := gd_some hf
            obtain ⟨μ26, e27, hf⟩ := nm_some hf
            refine r_iast C hw (n := 9) (ow_8_2 t0) (j := (nrm x5)) rfl g28 (by decide) dX8_rowsFrom_144 (fun H locs hw => ?_)
            rw [← e27] at hw
            exact w_X8_rowsFrom_145 C _ h_0 _ ih hf t0 hw (lvh_sub hl [3, 4, 5, 0, 6] rfl)
set_option maxHeartbeats 4000000 in
set_option maxRecDepth 20000 in
theorem w_X8_rowsFrom_0 (C : Cx p s m args meth c D b cX8_rowsFrom 8 RX8 (some .int)) {r : Int} {μ' : Mem} (rec : Nat → Int → Int → Int → Mem → Option (Int × Mem)) (h_0 : ∀ (x0 x1 x2 : Int) (μ μ' : Mem) (r : Int), isK x0 8 → rec 0 x0 x1 x2 μ = some (r, μ') → Ctr l D b yX8_rowsFrom cX8_rowsFrom 8 (some .int) (n0 + 3) [(2, x0), (0, x1), (0, x2)] μ (some (.int (jI r))) μ') {x0 x1 x2 : Int} {μ : Mem} {H : Heap} {locs : List Loc} {ls : Array Slot} (hf : b_X8_rowsFrom rec x0 x1 x2 μ = some (r, μ')) (t0 : isK x0 8) (hw : Hw D b μ s.heap H locs) (hl : lvh b ls 8 [(0, 2, x0), (1, 0, x1), (2, 0, x2)]) : W p l e (rm (n0 + 1 + 3)) s m args below meth c H locs 0 0 (QM below args s D b (some (.int (jI r))) μ') (F0 m 0 ls []) := by
  unfold b_X8_rowsFrom at hf
  refine r_aload_n C hl (kx := 0) rfl rfl dX8_rowsFrom_0 ?_
  refine gf_8_32 C hw t0 dX8_rowsFrom_1 ?_
  refine r_iload_n C hl (kx := 1) rfl rfl dX8_rowsFrom_4 ?_
  obtain ⟨g1, hf⟩ := gd_some hf
  obtain ⟨r3, μ2, e4, hf⟩ := bn_some hf
  refine r_callVv C hw (K := [(0, x1)]) ok6 g1 (c_X6_farFrom l D b g1 e4) mi_X6_farFrom in_X6_farFrom se_X6_farFrom kl_8_64 rfl rfl (lvh_sz hl) ⟨by simp only [rm]; omega, by simp only [rm]; omega⟩ (Kr := []) rfl (Nat.le_of_ble_eq_true rfl) dX8_rowsFrom_5 (fun H locs hw => ?_)
  refine r_istore_n C hl (by decide) (L' := [(3, 0, r3), (0, 2, x0), (1, 0, x1), (2, 0, x2)]) rfl rfl dX8_rowsFrom_8 (fun ls hl => ?_)
  refine r_iload_n C hl (kx := 0) rfl rfl dX8_rowsFrom_9 ?_
  refine r_iconst C dX8_rowsFrom_10 ?_
  refine r_icmp_eq C (tgt := 25) (by decide) dX8_rowsFrom_11 (fun c5 => ?_) (fun c5 => ?_)
  · have hf := ite_t c5 hf
    refine r_iconst C dX8_rowsFrom_25 ?_
    exact r_iret C hw hf dX8_rowsFrom_26
  · have hf := ite_f c5 hf
    refine r_iload_n C hl (kx := 0) rfl rfl dX8_rowsFrom_14 ?_
    refine r_iload_n C hl (kx := 3) rfl rfl dX8_rowsFrom_15 ?_
    refine r_icmp_gt C (tgt := 25) (by decide) dX8_rowsFrom_16 (fun c6 => ?_) (fun c6 => ?_)
    · have hf := ite_t c6 hf
      refine r_iconst C dX8_rowsFrom_25 ?_
      exact r_iret C hw hf dX8_rowsFrom_26
    · have hf := ite_f c6 hf
      refine r_iload_n C hl (kx := 3) rfl rfl dX8_rowsFrom_19 ?_
      refine r_bipush C (by decide) dX8_rowsFrom_20 ?_
      refine r_icmp_le C (tgt := 27) (by decide) dX8_rowsFrom_22 (fun c7 => ?_) (fun c7 => ?_)
      · have hf := ite_t c7 hf
        refine r_iload_n C hl (kx := 3) rfl rfl dX8_rowsFrom_27 ?_
        refine r_if_gt C (tgt := 33) (by decide) dX8_rowsFrom_28 (fun c8 => ?_) (fun c8 => ?_)
        · have hf := ite_t c8 hf
          refine r_iload_n C hl (kx := 3) rfl rfl dX8_rowsFrom_33 ?_
          refine r_iconst C dX8_rowsFrom_34 ?_
          refine r_icmp_ne C (tgt := 44) (by decide) dX8_rowsFrom_35 (fun c9 => ?_) (fun c9 => ?_)
          · have hf := ite_f c9 hf
            refine r_iconst C dX8_rowsFrom_44 ?_
            refine r_istore C hl (by decide) (L' := [(4, 0, 0), (3, 0, r3), (0, 2, x0), (1, 0, x1), (2, 0, x2)]) rfl dX8_rowsFrom_45 (fun ls hl => ?_)
            refine r_iconst C dX8_rowsFrom_47 ?_
            refine r_istore C hl (by decide) (L' := [(5, 0, 0), (4, 0, 0), (3, 0, r3), (0, 2, x0), (1, 0, x1), (2, 0, x2)]) rfl dX8_rowsFrom_48 (fun ls hl => ?_)
            exact w_X8_rowsFrom_50 C _ h_0 FU _ _ _ _ _ _ _ _ _ hf t0 hw (lvh_sub hl [3, 4, 5, 1, 0] rfl)
          · have hf := ite_t c9 hf
            refine r_aload_n C hl (kx := 1) rfl rfl dX8_rowsFrom_38 ?_
            refine r_iload_n C hl (kx := 2) rfl rfl dX8_rowsFrom_39 ?_
            obtain ⟨r11, μ10, e12, hf⟩ := bn_some hf
            refine r_callVv C hw (K := [(0, x1)]) ok8 t0 (c_X8_pairsFrom l D b t0 e12) mi_X8_pairsFrom in_X8_pairsFrom se_X8_pairsFrom kl_8_69 rfl rfl (lvh_sz hl) ⟨by simp only [rm]; omega, by simp only [rm]; omega⟩ (Kr := []) rfl (Nat.le_of_ble_eq_true rfl) dX8_rowsFrom_40 (fun H locs hw => ?_)
            exact r_iret C hw hf dX8_rowsFrom_43
        · have hf := ite_f c8 hf
          refine r_iconst C dX8_rowsFrom_31 ?_
          exact r_iret C hw hf dX8_rowsFrom_32
      · have hf := ite_f c7 hf
        refine r_iconst C dX8_rowsFrom_25 ?_
        exact r_iret C hw hf dX8_rowsFrom_26
set_option maxHeartbeats 4000000 in
theorem cg_X8_rowsFrom (l : Launch) (D : Ds) (b : Nat) : ∀ n0 : Nat, (∀ (x0 x1 x2 : Int) (μ μ' : Mem) (r : Int), isK x0 8 → g_X8_rowsFrom n0 0 x0 x1 x2 μ = some (r, μ') → Ctr l D b yX8_rowsFrom cX8_rowsFrom 8 (some .int) (n0 + 3) [(2, x0), (0, x1), (0, x2)] μ (some (.int (jI r))) μ') := by
  intro n0
  induction n0 with
  | zero => exact fun _ _ _ _ _ _ _ hf => (by cases hf)
  | succ n0 ih =>
    have h_0 := ih
    · intro x0 x1 x2 μ μ' r t0 hf
      rw [g_X8_rowsFrom.eq_2] at hf
      have hf := ite_t rfl hf
      refine Ctr.of (by decide +kernel) (Nat.le_of_ble_eq_true rfl) ?_
      intro p e s m below meth c C hw ls hl
      have hq := w_X8_rowsFrom_0 C (r := r) (μ' := μ') (n0 := n0) (e := e) (below := below) _ h_0 hf t0 hw hl
      exact hq
theorem c_X8_rowsFrom (l : Launch) (D : Ds) (b : Nat) {x0 x1 x2 : Int} {μ μ' : Mem} {r : Int} (t0 : isK x0 8) (hf : f_X8_rowsFrom x0 x1 x2 μ = some (r, μ')) : Ctr l D b yX8_rowsFrom cX8_rowsFrom 8 (some .int) 67 [(2, x0), (0, x1), (0, x2)] μ (some (.int (jI r))) μ' := (cg_X8_rowsFrom l D b 64) _ _ _ _ _ _ t0 hf
set_option maxHeartbeats 4000000 in
set_option maxRecDepth 20000 in
theorem w_X8_countRows_44 (C : Cx p s m args meth c D b cX8_countRows 7 RX8 (some .int)) {r : Int} {μ' : Mem} (k21 : Int → Int → Int → Int → Mem → Option (Int × Mem)) (h21 : ∀ (x0 x1 x4 x5 : Int) (μ : Mem) (H : Heap) (locs : List Loc) (ls : Array Slot), k21 x0 x1 x4 x5 μ = some (r, μ') → isK x0 8 → Hw D b μ s.heap H locs → lvh b ls 7 [(0, 2, x0), (1, 2, x1), (4, 0, x4), (5, 0, x5)] → W p l e (rm 68) s m args below meth c H locs 0 0 (QM below args s D b (some (.int (jI r))) μ') (F0 m 21 ls [])) : ∀ (n : Nat) (x0 x1 x4 x5 x6 : Int) (μ : Mem) (H : Heap) (locs : List Loc) (ls : Array Slot), f_X8_countRows_w44 k21 n x0 x1 x4 x5 x6 μ = some (r, μ') → isK x0 8 → Hw D b μ s.heap H locs → lvh b ls 7 [(0, 2, x0), (1, 2, x1), (4, 0, x4), (5, 0, x5), (6, 0, x6)] → W p l e (rm 68) s m args below meth c H locs 0 0 (QM below args s D b (some (.int (jI r))) μ') (F0 m 44 ls []) := by
  intro n
  induction n with
  | zero => intro x0 x1 x4 x5 x6 μ H locs ls hf; cases hf
  | succ n ih =>
    intro x0 x1 x4 x5 x6 μ H locs ls hf t0 hw hl
    rw [f_X8_countRows_w44.eq_2] at hf
    refine r_iload C hl (kx := 4) rfl dX8_countRows_44 ?_
    refine r_bipush C (by decide) dX8_countRows_46 ?_
    refine r_icmp_ge C (tgt := 110) (by decide) dX8_countRows_48 (fun c1 => ?_) (fun c1 => ?_)
    · have hf := ite_t c1 hf
      refine r_iinc C hl (kx := 3) rfl (by decide) (L' := [(5, 0, (x5 + 1)), (0, 2, x0), (1, 2, x1), (4, 0, x4), (6, 0, x6)]) rfl dX8_countRows_110 (fun ls hl => ?_)
      refine r_goto C (tgt := 21) (by decide) dX8_countRows_113 ?_
      exact h21 _ _ _ _ _ _ _ _ hf t0 hw (lvh_sub hl [1, 2, 3, 0] rfl)
    · have hf := ite_f c1 hf
      refine r_aload_n C hl (kx := 0) rfl rfl dX8_countRows_51 ?_
      refine gf_8_11 C hw t0 dX8_countRows_52 ?_
      refine r_iload C hl (kx := 3) rfl dX8_countRows_55 ?_
      refine r_bipush C (by decide) dX8_countRows_57 ?_
      refine r_imul C dX8_countRows_59 ?_
      refine r_iload C hl (kx := 4) rfl dX8_countRows_60 ?_
      refine r_iadd C dX8_countRows_62 ?_
      refine r_aload_n C hl (kx := 0) rfl rfl dX8_countRows_63 ?_
      refine gf_8_31 C hw t0 dX8_countRows_64 ?_
      refine r_iload C hl (kx := 3) rfl dX8_countRows_67 ?_
      refine r_iload C hl (kx := 4) rfl dX8_countRows_69 ?_
      refine r_aload_n C hl (kx := 1) rfl rfl dX8_countRows_71 ?_
      obtain ⟨g2, hf⟩ := gd_some hf
      obtain ⟨r4, μ3, e5, hf⟩ := bn_some hf
      refine r_callVv C hw (K := [(0, x5), (0, x6), (2, x1)]) ok3 g2 (c_X3_mayGo l D b g2 e5) mi_X3_mayGo in_X3_mayGo se_X3_mayGo kl_8_44 rfl rfl (lvh_sz hl) (by decide) (Kr := [(0, ((x5 * 7) + x6)), (2, (x0 + 1))]) rfl (Nat.le_of_ble_eq_true rfl) dX8_countRows_72 (fun H locs hw => ?_)
      obtain ⟨g8, hf⟩ := gd_some hf
      obtain ⟨g9, hf⟩ := gd_some hf
      obtain ⟨μ6, e7, hf⟩ := nm_some hf
      refine r_zast C hw (n := 63) (ow_8_0 t0) (j := (nrm ((x5 * 7) + x6))) rfl g8 g9 (by decide) dX8_countRows_75 (fun H locs hw => ?_)
      rw [← e7] at hw
      refine r_aload_n C hl (kx := 0) rfl rfl dX8_countRows_76 ?_
      refine gf_8_15 C hw t0 dX8_countRows_77 ?_
      refine r_iload C hl (kx := 3) rfl dX8_countRows_80 ?_
      refine r_bipush C (by decide) dX8_countRows_82 ?_
      refine r_imul C dX8_countRows_84 ?_
      refine r_iload C hl (kx := 4) rfl dX8_countRows_85 ?_
      refine r_iadd C dX8_countRows_87 ?_
      refine r_aload_n C hl (kx := 0) rfl rfl dX8_countRows_88 ?_
      refine gf_8_31 C hw t0 dX8_countRows_89 ?_
      refine r_iload C hl (kx := 3) rfl dX8_countRows_92 ?_
      refine r_iload C hl (kx := 4) rfl dX8_countRows_94 ?_
      refine r_aload_n C hl (kx := 1) rfl rfl dX8_countRows_96 ?_
      obtain ⟨g10, hf⟩ := gd_some hf
      refine gf_8_50 C hw g10 dX8_countRows_97 ?_
      obtain ⟨g11, hf⟩ := gd_some hf
      obtain ⟨r13, μ12, e14, hf⟩ := bn_some hf
      refine r_callVv C hw (K := [(0, x5), (0, x6), (0, (μ6 x1 2))]) ok3 g11 (c_X3_wornFrom l D b g11 e14) mi_X3_wornFrom in_X3_wornFrom se_X3_wornFrom kl_8_53 rfl rfl (lvh_sz hl) (by decide) (Kr := [(0, ((x5 * 7) + x6)), (2, (x0 + 2))]) rfl (Nat.le_of_ble_eq_true rfl) dX8_countRows_100 (fun H locs hw => ?_)
      obtain ⟨g17, hf⟩ := gd_some hf
      obtain ⟨μ15, e16, hf⟩ := nm_some hf
      refine r_iast C hw (n := 63) (ow_8_1 t0) (j := (nrm ((x5 * 7) + x6))) rfl g17 (by decide) dX8_countRows_103 (fun H locs hw => ?_)
      rw [← e16] at hw
      refine r_iinc C hl (kx := 4) rfl (by decide) (L' := [(6, 0, (x6 + 1)), (0, 2, x0), (1, 2, x1), (4, 0, x4), (5, 0, x5)]) rfl dX8_countRows_104 (fun ls hl => ?_)
      refine r_goto C (tgt := 44) (by decide) dX8_countRows_107 ?_
      exact ih _ _ _ _ _ _ _ _ _ hf t0 hw (lvh_sub hl [1, 2, 3, 4, 0] rfl)
set_option maxHeartbeats 4000000 in
set_option maxRecDepth 20000 in
theorem w_X8_countRows_21 (C : Cx p s m args meth c D b cX8_countRows 7 RX8 (some .int)) {r : Int} {μ' : Mem} : ∀ (n : Nat) (x0 x1 x4 x5 : Int) (μ : Mem) (H : Heap) (locs : List Loc) (ls : Array Slot), f_X8_countRows_w21 n x0 x1 x4 x5 μ = some (r, μ') → isK x0 8 → Hw D b μ s.heap H locs → lvh b ls 7 [(0, 2, x0), (1, 2, x1), (4, 0, x4), (5, 0, x5)] → W p l e (rm 68) s m args below meth c H locs 0 0 (QM below args s D b (some (.int (jI r))) μ') (F0 m 21 ls []) := by
  intro n
  induction n with
  | zero => intro x0 x1 x4 x5 μ H locs ls hf; cases hf
  | succ n ih =>
    intro x0 x1 x4 x5 μ H locs ls hf t0 hw hl
    rw [f_X8_countRows_w21.eq_2] at hf
    refine r_iload C hl (kx := 3) rfl dX8_countRows_21 ?_
    refine r_bipush C (by decide) dX8_countRows_23 ?_
    refine r_icmp_ge C (tgt := 116) (by decide) dX8_countRows_25 (fun c1 => ?_) (fun c1 => ?_)
    · have hf := ite_t c1 hf
      refine r_aload_n C hl (kx := 0) rfl rfl dX8_countRows_116 ?_
      refine r_aload_n C hl (kx := 1) rfl rfl dX8_countRows_117 ?_
      obtain ⟨g2, hf⟩ := gd_some hf
      refine gf_8_57 C hw g2 dX8_countRows_118 ?_
      refine r_iload C hl (kx := 2) rfl dX8_countRows_121 ?_
      obtain ⟨r4, μ3, e5, hf⟩ := bn_some hf
      refine r_callVv C hw (K := [(0, (μ x1 1)), (0, x4)]) ok8 t0 (c_X8_rowsFrom l D b t0 e5) mi_X8_rowsFrom in_X8_rowsFrom se_X8_rowsFrom kl_8_60 rfl rfl (lvh_sz hl) (by decide) (Kr := []) rfl (Nat.le_of_ble_eq_true rfl) dX8_countRows_123 (fun H locs hw => ?_)
      exact r_iret C hw hf dX8_countRows_126
    · have hf := ite_f c1 hf
      refine r_aload_n C hl (kx := 0) rfl rfl dX8_countRows_28 ?_
      refine gf_8_19 C hw t0 dX8_countRows_29 ?_
      refine r_iload C hl (kx := 3) rfl dX8_countRows_32 ?_
      refine r_aload_n C hl (kx := 1) rfl rfl dX8_countRows_34 ?_
      refine r_iload C hl (kx := 3) rfl dX8_countRows_35 ?_
      obtain ⟨g6, hf⟩ := gd_some hf
      obtain ⟨r8, μ7, e9, hf⟩ := bn_some hf
      refine r_callVv C hw (K := [(0, x5)]) ok0 g6 (c_X0_depthOf l D b g6 e9) mi_X0_depthOf in_X0_depthOf se_X0_depthOf kl_8_40 rfl rfl (lvh_sz hl) (by decide) (Kr := [(0, x5), (2, (x0 + 3))]) rfl (Nat.le_of_ble_eq_true rfl) dX8_countRows_37 (fun H locs hw => ?_)
      obtain ⟨g12, hf⟩ := gd_some hf
      obtain ⟨μ10, e11, hf⟩ := nm_some hf
      refine r_iast C hw (n := 9) (ow_8_2 t0) (j := (nrm x5)) rfl g12 (by decide) dX8_countRows_40 (fun H locs hw => ?_)
      rw [← e11] at hw
      refine r_iconst C dX8_countRows_41 ?_
      refine r_istore C hl (by decide) (L' := [(6, 0, 0), (0, 2, x0), (1, 2, x1), (4, 0, x4), (5, 0, x5)]) rfl dX8_countRows_42 (fun ls hl => ?_)
      exact w_X8_countRows_44 C _ ih FU _ _ _ _ _ _ _ _ _ hf t0 hw (lvh_sub hl [1, 2, 3, 4, 0] rfl)
set_option maxHeartbeats 4000000 in
set_option maxRecDepth 20000 in
theorem w_X8_countRows_0 (C : Cx p s m args meth c D b cX8_countRows 7 RX8 (some .int)) {r : Int} {μ' : Mem} {x0 x1 x2 x3 x4 : Int} {μ : Mem} {H : Heap} {locs : List Loc} {ls : Array Slot} (hf : f_X8_countRows x0 x1 x2 x3 x4 μ = some (r, μ')) (t0 : isK x0 8) (hw : Hw D b μ s.heap H locs) (hl : lvh b ls 7 [(0, 2, x0), (1, 2, x1), (2, 2, x2), (3, 0, x3), (4, 0, x4)]) : W p l e (rm 68) s m args below meth c H locs 0 0 (QM below args s D b (some (.int (jI r))) μ') (F0 m 0 ls []) := by
  unfold f_X8_countRows at hf
  refine r_aload_n C hl (kx := 0) rfl rfl dX8_countRows_0 ?_
  refine r_aload_n C hl (kx := 1) rfl rfl dX8_countRows_1 ?_
  obtain ⟨g1, hf⟩ := gd_some hf
  refine gf_8_25 C hw g1 dX8_countRows_2 ?_
  obtain ⟨μ2, e3, hf⟩ := nm_some hf
  refine pf_8_31 C hw t0 dX8_countRows_5 (fun H locs hw => ?_)
  rw [← e3] at hw
  refine r_aload_n C hl (kx := 0) rfl rfl dX8_countRows_8 ?_
  refine r_aload_n C hl (kx := 2) rfl rfl dX8_countRows_9 ?_
  obtain ⟨μ4, e5, hf⟩ := nm_some hf
  refine pf_8_32 C hw t0 dX8_countRows_10 (fun H locs hw => ?_)
  rw [← e5] at hw
  refine r_aload_n C hl (kx := 0) rfl rfl dX8_countRows_13 ?_
  refine r_iload_n C hl (kx := 3) rfl rfl dX8_countRows_14 ?_
  obtain ⟨μ6, e7, hf⟩ := nm_some hf
  refine pf_8_36 C hw t0 dX8_countRows_15 (fun H locs hw => ?_)
  rw [← e7] at hw
  refine r_iconst C dX8_countRows_18 ?_
  refine r_istore C hl (by decide) (L' := [(5, 0, 0), (0, 2, x0), (1, 2, x1), (2, 2, x2), (3, 0, x3), (4, 0, x4)]) rfl dX8_countRows_19 (fun ls hl => ?_)
  exact w_X8_countRows_21 C FU _ _ _ _ _ _ _ _ hf t0 hw (lvh_sub hl [1, 2, 5, 0] rfl)
theorem c_X8_countRows (l : Launch) (D : Ds) (b : Nat) {x0 x1 x2 x3 x4 : Int} {μ μ' : Mem} {r : Int} (t0 : isK x0 8) (hf : f_X8_countRows x0 x1 x2 x3 x4 μ = some (r, μ')) : Ctr l D b yX8_countRows cX8_countRows 7 (some .int) 68 [(2, x0), (2, x1), (2, x2), (0, x3), (0, x4)] μ (some (.int (jI r))) μ' := by
  refine Ctr.of (by decide +kernel) (Nat.le_of_ble_eq_true rfl) ?_
  intro p e s m below meth c C hw ls hl
  exact w_X8_countRows_0 C hf t0 hw hl
set_option maxHeartbeats 4000000 in
set_option maxRecDepth 20000 in
theorem w_J7_fill_d0a16_6 (C : Cx p s m args meth c D b cJ7_fill_d0a16 5 RJ7 (none)) {r : Int} {μ' : Mem} : ∀ (n : Nat) (x0 x1 x3 x4 : Int) (μ : Mem) (H : Heap) (locs : List Loc) (ls : Array Slot), f_J7_fill_d0a16_w6 n x0 x1 x3 x4 μ = some (r, μ') → Hw D b μ s.heap H locs → lvh b ls 5 [(0, 2, x0), (1, 1, x1), (3, 0, x3), (4, 0, x4)] → W p l e (rm 0) s m args below meth c H locs 0 0 (QM below args s D b none μ') (F0 m 6 ls []) := by
  intro n
  induction n with
  | zero => intro x0 x1 x3 x4 μ H locs ls hf; cases hf
  | succ n ih =>
    intro x0 x1 x3 x4 μ H locs ls hf hw hl
    rw [f_J7_fill_d0a16_w6.eq_2] at hf
    refine r_iload_n C hl (kx := 2) rfl rfl dJ7_fill_d0a16_6 ?_
    refine r_iload C hl (kx := 3) rfl dJ7_fill_d0a16_7 ?_
    refine r_icmp_ge C (tgt := 22) (by decide) dJ7_fill_d0a16_9 (fun c1 => ?_) (fun c1 => ?_)
    · have hf := ite_t c1 hf
      exact r_vret C hw hf dJ7_fill_d0a16_22
    · have hf := ite_f c1 hf
      refine r_aload_n C hl (kx := 0) rfl rfl dJ7_fill_d0a16_12 ?_
      refine r_iload_n C hl (kx := 2) rfl rfl dJ7_fill_d0a16_13 ?_
      refine r_lload_n C hl (kx := 1) rfl rfl dJ7_fill_d0a16_14 ?_
      obtain ⟨g4, hf⟩ := gd_some hf
      obtain ⟨g5, hf⟩ := gd_some hf
      obtain ⟨μ2, e3, hf⟩ := nm_some hf
      refine r_last C hw (n := 40) g4 (j := (nrm x3)) rfl g5 (by decide) dJ7_fill_d0a16_15 (fun H locs hw => ?_)
      rw [← e3] at hw
      refine r_iinc C hl (kx := 2) rfl (by decide) (L' := [(3, 0, (x3 + 1)), (0, 2, x0), (1, 1, x1), (4, 0, x4)]) rfl dJ7_fill_d0a16_16 (fun ls hl => ?_)
      refine r_goto C (tgt := 6) (by decide) dJ7_fill_d0a16_19 ?_
      exact ih _ _ _ _ _ _ _ _ hf hw (lvh_sub hl [1, 2, 0, 3] rfl)
set_option maxHeartbeats 4000000 in
set_option maxRecDepth 20000 in
theorem w_J7_fill_d0a16_0 (C : Cx p s m args meth c D b cJ7_fill_d0a16 5 RJ7 (none)) {r : Int} {μ' : Mem} {x0 x1 : Int} {μ : Mem} {H : Heap} {locs : List Loc} {ls : Array Slot} (hf : f_J7_fill_d0a16 x0 x1 μ = some (r, μ')) (hw : Hw D b μ s.heap H locs) (hl : lvh b ls 5 [(0, 2, x0), (1, 1, x1)]) : W p l e (rm 0) s m args below meth c H locs 0 0 (QM below args s D b none μ') (F0 m 0 ls []) := by
  unfold f_J7_fill_d0a16 at hf
  refine r_iconst C dJ7_fill_d0a16_0 ?_
  refine r_istore_n C hl (by decide) (L' := [(3, 0, 0), (0, 2, x0), (1, 1, x1)]) rfl rfl dJ7_fill_d0a16_1 (fun ls hl => ?_)
  refine r_aload_n C hl (kx := 1) rfl rfl dJ7_fill_d0a16_2 ?_
  obtain ⟨g1, hf⟩ := gd_some hf
  refine r_alen4 C hw (n := 40) g1 (by decide) (z := 40) rfl dJ7_fill_d0a16_3 ?_
  refine r_istore C hl (by decide) (L' := [(4, 0, 40), (3, 0, 0), (0, 2, x0), (1, 1, x1)]) rfl dJ7_fill_d0a16_4 (fun ls hl => ?_)
  exact w_J7_fill_d0a16_6 C FU _ _ _ _ _ _ _ _ hf hw (lvh_sub hl [2, 3, 1, 0] rfl)
theorem c_J7_fill_d0a16 (l : Launch) (D : Ds) (b : Nat) {x0 x1 : Int} {μ μ' : Mem} {r : Int} (hf : f_J7_fill_d0a16 x0 x1 μ = some (r, μ')) : Ctr l D b yJ7_fill_d0a16 cJ7_fill_d0a16 5 (none) 0 [(2, x0), (1, x1)] μ none μ' := by
  refine Ctr.of (by decide +kernel) (Nat.le_of_ble_eq_true rfl) ?_
  intro p e s m below meth c C hw ls hl
  exact w_J7_fill_d0a16_0 C hf hw hl
set_option maxHeartbeats 4000000 in
set_option maxRecDepth 20000 in
theorem w_X10_makeNew_0 (C : Cx p s m args meth c D b cX10_makeNew 3 RX10 (none)) {r : Int} {μ' : Mem} {x0 x1 x2 : Int} {μ : Mem} {H : Heap} {locs : List Loc} {ls : Array Slot} (hf : f_X10_makeNew x0 x1 x2 μ = some (r, μ')) (t0 : isK x0 10) (hw : Hw D b μ s.heap H locs) (hl : lvh b ls 3 [(0, 2, x0), (1, 0, x1), (2, 0, x2)]) : W p l e (rm 1) s m args below meth c H locs 0 0 (QM below args s D b none μ') (F0 m 0 ls []) := by
  unfold f_X10_makeNew at hf
  refine r_aload_n C hl (kx := 0) rfl rfl dX10_makeNew_0 ?_
  refine r_iconst C dX10_makeNew_1 ?_
  obtain ⟨μ1, e2, hf⟩ := nm_some hf
  refine pf_10_9 C hw t0 (by decide) dX10_makeNew_2 (fun H locs hw => ?_)
  rw [← e2] at hw
  refine r_aload_n C hl (kx := 0) rfl rfl dX10_makeNew_5 ?_
  refine r_iload_n C hl (kx := 1) rfl rfl dX10_makeNew_6 ?_
  obtain ⟨μ3, e4, hf⟩ := nm_some hf
  refine pf_10_19 C hw t0 dX10_makeNew_7 (fun H locs hw => ?_)
  rw [← e4] at hw
  refine r_aload_n C hl (kx := 0) rfl rfl dX10_makeNew_10 ?_
  refine r_iload_n C hl (kx := 2) rfl rfl dX10_makeNew_11 ?_
  obtain ⟨μ5, e6, hf⟩ := nm_some hf
  refine pf_10_23 C hw t0 dX10_makeNew_12 (fun H locs hw => ?_)
  rw [← e6] at hw
  refine r_aload_n C hl (kx := 0) rfl rfl dX10_makeNew_15 ?_
  refine gf_10_15 C hw t0 dX10_makeNew_16 ?_
  refine r_lconst C (z := 0) (by decide) dX10_makeNew_19 ?_
  obtain ⟨r8, μ7, e9, hf⟩ := bn_some hf
  refine r_callSn C hw (K := [(2, (x0 + 1)), (1, 0)]) (c_J7_fill_d0a16 l D b e9) mi_J7_fill_d0a16 st_J7_fill_d0a16 kl_10_26 rfl rfl (lvh_sz hl) (by decide) (Kr := []) rfl (Nat.le_of_ble_eq_true rfl) dX10_makeNew_20 (fun H locs hw => ?_)
  exact r_vret C hw hf dX10_makeNew_23
theorem c_X10_makeNew (l : Launch) (D : Ds) (b : Nat) {x0 x1 x2 : Int} {μ μ' : Mem} {r : Int} (t0 : isK x0 10) (hf : f_X10_makeNew x0 x1 x2 μ = some (r, μ')) : Ctr l D b yX10_makeNew cX10_makeNew 3 (none) 1 [(2, x0), (0, x1), (0, x2)] μ none μ' := by
  refine Ctr.of (by decide +kernel) (Nat.le_of_ble_eq_true rfl) ?_
  intro p e s m below meth c C hw ls hl
  exact w_X10_makeNew_0 C hf t0 hw hl
set_option maxHeartbeats 4000000 in
set_option maxRecDepth 20000 in
theorem w_X10_numberAt_0 (C : Cx p s m args meth c D b cX10_numberAt 2 RX10 (some .long)) {r : Int} {μ' : Mem} {x0 x1 : Int} {μ : Mem} {H : Heap} {locs : List Loc} {ls : Array Slot} (hf : f_X10_numberAt x0 x1 μ = some (r, μ')) (t0 : isK x0 10) (hw : Hw D b μ s.heap H locs) (hl : lvh b ls 2 [(0, 2, x0), (1, 0, x1)]) : W p l e (rm 0) s m args below meth c H locs 0 0 (QM below args s D b (some (.long (jL r))) μ') (F0 m 0 ls []) := by
  unfold f_X10_numberAt at hf
  refine r_iload_n C hl (kx := 1) rfl rfl dX10_numberAt_0 ?_
  refine r_if_lt C (tgt := 21) (by decide) dX10_numberAt_1 (fun c1 => ?_) (fun c1 => ?_)
  · have hf := ite_t c1 hf
    refine r_lconst C (z := 0) (by decide) dX10_numberAt_21 ?_
    refine r_goto C (tgt := 31) (by decide) dX10_numberAt_22 ?_
    exact r_lret C hw hf dX10_numberAt_31
  · have hf := ite_f c1 hf
    refine r_iload_n C hl (kx := 1) rfl rfl dX10_numberAt_4 ?_
    refine r_aload_n C hl (kx := 0) rfl rfl dX10_numberAt_5 ?_
    refine gf_10_23 C hw t0 dX10_numberAt_6 ?_
    refine r_icmp_ge C (tgt := 21) (by decide) dX10_numberAt_9 (fun c2 => ?_) (fun c2 => ?_)
    · have hf := ite_t c2 hf
      refine r_lconst C (z := 0) (by decide) dX10_numberAt_21 ?_
      refine r_goto C (tgt := 31) (by decide) dX10_numberAt_22 ?_
      exact r_lret C hw hf dX10_numberAt_31
    · have hf := ite_f c2 hf
      refine r_iload_n C hl (kx := 1) rfl rfl dX10_numberAt_12 ?_
      refine r_aload_n C hl (kx := 0) rfl rfl dX10_numberAt_13 ?_
      refine gf_10_15 C hw t0 dX10_numberAt_14 ?_
      refine r_alen4 C hw (n := 40) (ow_10_3 t0) (by decide) (z := 40) rfl dX10_numberAt_17 ?_
      refine r_icmp_lt C (tgt := 25) (by decide) dX10_numberAt_18 (fun c3 => ?_) (fun c3 => ?_)
      · have hf := ite_t c3 hf
        refine r_aload_n C hl (kx := 0) rfl rfl dX10_numberAt_25 ?_
        refine gf_10_15 C hw t0 dX10_numberAt_26 ?_
        refine r_iload_n C hl (kx := 1) rfl rfl dX10_numberAt_29 ?_
        obtain ⟨g4, hf⟩ := gd_some hf
        refine r_lald C hw (n := 40) (ow_10_3 t0) (j := (nrm x1)) rfl g4 (by decide) dX10_numberAt_30 ?_
        exact r_lret C hw hf dX10_numberAt_31
      · have hf := ite_f c3 hf
        refine r_lconst C (z := 0) (by decide) dX10_numberAt_21 ?_
        refine r_goto C (tgt := 31) (by decide) dX10_numberAt_22 ?_
        exact r_lret C hw hf dX10_numberAt_31
theorem c_X10_numberAt (l : Launch) (D : Ds) (b : Nat) {x0 x1 : Int} {μ μ' : Mem} {r : Int} (t0 : isK x0 10) (hf : f_X10_numberAt x0 x1 μ = some (r, μ')) : Ctr l D b yX10_numberAt cX10_numberAt 2 (some .long) 0 [(2, x0), (0, x1)] μ (some (.long (jL r))) μ' := by
  refine Ctr.of (by decide +kernel) (Nat.le_of_ble_eq_true rfl) ?_
  intro p e s m below meth c C hw ls hl
  exact w_X10_numberAt_0 C hf t0 hw hl
set_option maxHeartbeats 4000000 in
set_option maxRecDepth 20000 in
theorem w_X10_cutToSort_0 (C : Cx p s m args meth c D b cX10_cutToSort 3 RX10 (some .long)) {r : Int} {μ' : Mem} {x0 x1 : Int} {μ : Mem} {H : Heap} {locs : List Loc} {ls : Array Slot} (hf : f_X10_cutToSort x0 x1 μ = some (r, μ')) (t0 : isK x0 10) (hw : Hw D b μ s.heap H locs) (hl : lvh b ls 3 [(0, 2, x0), (1, 1, x1)]) : W p l e (rm 0) s m args below meth c H locs 0 0 (QM below args s D b (some (.long (jL r))) μ') (F0 m 0 ls []) := by
  unfold f_X10_cutToSort at hf
  refine r_aload_n C hl (kx := 0) rfl rfl dX10_cutToSort_0 ?_
  refine gf_10_19 C hw t0 dX10_cutToSort_1 ?_
  rcases Decidable.em (nrm (μ x0 2) = 0) with c1 | c1
  · have hf := ite_t c1 hf
    refine r_tabIn C (tgt := 32) c1 (by decide) (by decide) rfl (by decide) dX10_cutToSort_4 ?_
    refine r_lload_n C hl (kx := 1) rfl rfl dX10_cutToSort_32 ?_
    refine r_l2i C dX10_cutToSort_33 ?_
    refine r_i2b C dX10_cutToSort_34 ?_
    refine r_i2l C dX10_cutToSort_35 ?_
    exact r_lret C hw hf dX10_cutToSort_36
  have hf := ite_f c1 hf
  rcases Decidable.em (nrm (μ x0 2) = 1) with c2 | c2
  · have hf := ite_t c2 hf
    refine r_tabIn C (tgt := 37) c2 (by decide) (by decide) rfl (by decide) dX10_cutToSort_4 ?_
    refine r_lload_n C hl (kx := 1) rfl rfl dX10_cutToSort_37 ?_
    refine r_l2i C dX10_cutToSort_38 ?_
    refine r_i2s C dX10_cutToSort_39 ?_
    refine r_i2l C dX10_cutToSort_40 ?_
    exact r_lret C hw hf dX10_cutToSort_41
  have hf := ite_f c2 hf
  rcases Decidable.em (nrm (μ x0 2) = 2) with c3 | c3
  · have hf := ite_t c3 hf
    refine r_tabIn C (tgt := 42) c3 (by decide) (by decide) rfl (by decide) dX10_cutToSort_4 ?_
    refine r_lload_n C hl (kx := 1) rfl rfl dX10_cutToSort_42 ?_
    refine r_l2i C dX10_cutToSort_43 ?_
    refine r_i2l C dX10_cutToSort_44 ?_
    exact r_lret C hw hf dX10_cutToSort_45
  have hf := ite_f c3 hf
  refine r_tabOut C (tgt := 46) (by omega) (by decide) dX10_cutToSort_4 ?_
  refine r_lload_n C hl (kx := 1) rfl rfl dX10_cutToSort_46 ?_
  exact r_lret C hw hf dX10_cutToSort_47
theorem c_X10_cutToSort (l : Launch) (D : Ds) (b : Nat) {x0 x1 : Int} {μ μ' : Mem} {r : Int} (t0 : isK x0 10) (hf : f_X10_cutToSort x0 x1 μ = some (r, μ')) : Ctr l D b yX10_cutToSort cX10_cutToSort 3 (some .long) 0 [(2, x0), (1, x1)] μ (some (.long (jL r))) μ' := by
  refine Ctr.of (by decide +kernel) (Nat.le_of_ble_eq_true rfl) ?_
  intro p e s m below meth c C hw ls hl
  exact w_X10_cutToSort_0 C hf t0 hw hl
set_option maxHeartbeats 4000000 in
set_option maxRecDepth 20000 in
theorem w_X10_put_0 (C : Cx p s m args meth c D b cX10_put 4 RX10 (none)) {r : Int} {μ' : Mem} {x0 x1 x2 : Int} {μ : Mem} {H : Heap} {locs : List Loc} {ls : Array Slot} (hf : f_X10_put x0 x1 x2 μ = some (r, μ')) (t0 : isK x0 10) (hw : Hw D b μ s.heap H locs) (hl : lvh b ls 4 [(0, 2, x0), (1, 0, x1), (2, 1, x2)]) : W p l e (rm 1) s m args below meth c H locs 0 0 (QM below args s D b none μ') (F0 m 0 ls []) := by
  unfold f_X10_put at hf
  refine r_iload_n C hl (kx := 1) rfl rfl dX10_put_0 ?_
  refine r_if_lt C (tgt := 32) (by decide) dX10_put_1 (fun c1 => ?_) (fun c1 => ?_)
  · have hf := ite_t c1 hf
    exact r_vret C hw hf dX10_put_32
  · have hf := ite_f c1 hf
    refine r_iload_n C hl (kx := 1) rfl rfl dX10_put_4 ?_
    refine r_aload_n C hl (kx := 0) rfl rfl dX10_put_5 ?_
    refine gf_10_23 C hw t0 dX10_put_6 ?_
    refine r_icmp_ge C (tgt := 32) (by decide) dX10_put_9 (fun c2 => ?_) (fun c2 => ?_)
    · have hf := ite_t c2 hf
      exact r_vret C hw hf dX10_put_32
    · have hf := ite_f c2 hf
      refine r_iload_n C hl (kx := 1) rfl rfl dX10_put_12 ?_
      refine r_aload_n C hl (kx := 0) rfl rfl dX10_put_13 ?_
      refine gf_10_15 C hw t0 dX10_put_14 ?_
      refine r_alen4 C hw (n := 40) (ow_10_3 t0) (by decide) (z := 40) rfl dX10_put_17 ?_
      refine r_icmp_ge C (tgt := 32) (by decide) dX10_put_18 (fun c3 => ?_) (fun c3 => ?_)
      · have hf := ite_t c3 hf
        exact r_vret C hw hf dX10_put_32
      · have hf := ite_f c3 hf
        refine r_aload_n C hl (kx := 0) rfl rfl dX10_put_21 ?_
        refine gf_10_15 C hw t0 dX10_put_22 ?_
        refine r_iload_n C hl (kx := 1) rfl rfl dX10_put_25 ?_
        refine r_aload_n C hl (kx := 0) rfl rfl dX10_put_26 ?_
        refine r_lload_n C hl (kx := 2) rfl rfl dX10_put_27 ?_
        obtain ⟨r5, μ4, e6, hf⟩ := bn_some hf
        refine r_callVv C hw (K := [(1, x2)]) ok10 t0 (c_X10_cutToSort l D b t0 e6) mi_X10_cutToSort in_X10_cutToSort se_X10_cutToSort kl_10_32 rfl rfl (lvh_sz hl) (by decide) (Kr := [(0, x1), (2, (x0 + 1))]) rfl (Nat.le_of_ble_eq_true rfl) dX10_put_28 (fun H locs hw => ?_)
        obtain ⟨g9, hf⟩ := gd_some hf
        obtain ⟨μ7, e8, hf⟩ := nm_some hf
        refine r_last C hw (n := 40) (ow_10_3 t0) (j := (nrm x1)) rfl g9 (by decide) dX10_put_31 (fun H locs hw => ?_)
        rw [← e8] at hw
        exact r_vret C hw hf dX10_put_32
theorem c_X10_put (l : Launch) (D : Ds) (b : Nat) {x0 x1 x2 : Int} {μ μ' : Mem} {r : Int} (t0 : isK x0 10) (hf : f_X10_put x0 x1 x2 μ = some (r, μ')) : Ctr l D b yX10_put cX10_put 4 (none) 1 [(2, x0), (0, x1), (1, x2)] μ none μ' := by
  refine Ctr.of (by decide +kernel) (Nat.le_of_ble_eq_true rfl) ?_
  intro p e s m below meth c C hw ls hl
  exact w_X10_put_0 C hf t0 hw hl
set_option maxHeartbeats 4000000 in
set_option maxRecDepth 20000 in
theorem w_X11_putOnTape_49 (C : Cx p s m args meth c D b cX11_putOnTape 3 RX11 (none)) {r : Int} {μ' : Mem} (k3 : Int → Int → Int → Mem → Option (Int × Mem)) (h3 : ∀ (x0 x1 x2 : Int) (μ : Mem) (H : Heap) (locs : List Loc) (ls : Array Slot), k3 x0 x1 x2 μ = some (r, μ') → isK x0 11 → Hw D b μ s.heap H locs → lvh b ls 3 [(0, 2, x0), (1, 0, x1), (2, 0, x2)] → W p l e (rm 0) s m args below meth c H locs 0 0 (QM below args s D b none μ') (F0 m 3 ls [])) {x0 x1 x2 : Int} {μ : Mem} {H : Heap} {locs : List Loc} {ls : Array Slot} (hf : f_X11_putOnTape_j49 k3 x0 x1 x2 μ = some (r, μ')) (t0 : isK x0 11) (hw : Hw D b μ s.heap H locs) (hl : lvh b ls 3 [(0, 2, x0), (1, 0, x1), (2, 0, x2)]) : W p l e (rm 0) s m args below meth c H locs 0 0 (QM below args s D b none μ') (F0 m 49 ls []) := by
  unfold f_X11_putOnTape_j49 at hf
  refine r_iinc C hl (kx := 2) rfl (by decide) (L' := [(2, 0, (x2 + (-8))), (0, 2, x0), (1, 0, x1)]) rfl dX11_putOnTape_49 (fun ls hl => ?_)
  refine r_goto C (tgt := 3) (by decide) dX11_putOnTape_52 ?_
  exact h3 _ _ _ _ _ _ _ hf t0 hw (lvh_sub hl [1, 2, 0] rfl)
set_option maxHeartbeats 4000000 in
set_option maxRecDepth 20000 in
theorem w_X11_putOnTape_3 (C : Cx p s m args meth c D b cX11_putOnTape 3 RX11 (none)) {r : Int} {μ' : Mem} : ∀ (n : Nat) (x0 x1 x2 : Int) (μ : Mem) (H : Heap) (locs : List Loc) (ls : Array Slot), f_X11_putOnTape_w3 n x0 x1 x2 μ = some (r, μ') → isK x0 11 → Hw D b μ s.heap H locs → lvh b ls 3 [(0, 2, x0), (1, 0, x1), (2, 0, x2)] → W p l e (rm 0) s m args below meth c H locs 0 0 (QM below args s D b none μ') (F0 m 3 ls []) := by
  intro n
  induction n with
  | zero => intro x0 x1 x2 μ H locs ls hf; cases hf
  | succ n ih =>
    intro x0 x1 x2 μ H locs ls hf t0 hw hl
    rw [f_X11_putOnTape_w3.eq_2] at hf
    refine r_iload_n C hl (kx := 2) rfl rfl dX11_putOnTape_3 ?_
    refine r_if_lt C (tgt := 55) (by decide) dX11_putOnTape_4 (fun c1 => ?_) (fun c1 => ?_)
    · have hf := ite_t c1 hf
      exact r_vret C hw hf dX11_putOnTape_55
    · have hf := ite_f c1 hf
      refine r_aload_n C hl (kx := 0) rfl rfl dX11_putOnTape_7 ?_
      refine gf_11_89 C hw t0 dX11_putOnTape_8 ?_
      refine r_if_lt C (tgt := 49) (by decide) dX11_putOnTape_11 (fun c2 => ?_) (fun c2 => ?_)
      · have hf := ite_t c2 hf
        exact w_X11_putOnTape_49 C _ ih hf t0 hw (lvh_sub hl [0, 1, 2] rfl)
      · have hf := ite_f c2 hf
        refine r_aload_n C hl (kx := 0) rfl rfl dX11_putOnTape_14 ?_
        refine gf_11_89 C hw t0 dX11_putOnTape_15 ?_
        refine r_aload_n C hl (kx := 0) rfl rfl dX11_putOnTape_18 ?_
        refine gf_11_9 C hw t0 dX11_putOnTape_19 ?_
        refine r_alen2 C hw (n := 900) (ow_11_0 t0) (by decide) (z := 900) rfl dX11_putOnTape_22 ?_
        refine r_icmp_ge C (tgt := 49) (by decide) dX11_putOnTape_23 (fun c3 => ?_) (fun c3 => ?_)
        · have hf := ite_t c3 hf
          exact w_X11_putOnTape_49 C _ ih hf t0 hw (lvh_sub hl [0, 1, 2] rfl)
        · have hf := ite_f c3 hf
          refine r_aload_n C hl (kx := 0) rfl rfl dX11_putOnTape_26 ?_
          refine gf_11_9 C hw t0 dX11_putOnTape_27 ?_
          refine r_aload_n C hl (kx := 0) rfl rfl dX11_putOnTape_30 ?_
          refine gf_11_89 C hw t0 dX11_putOnTape_31 ?_
          refine r_iload_n C hl (kx := 1) rfl rfl dX11_putOnTape_34 ?_
          refine r_iload_n C hl (kx := 2) rfl rfl dX11_putOnTape_35 ?_
          refine r_ishr C dX11_putOnTape_36 ?_
          refine r_i2b C dX11_putOnTape_37 ?_
          obtain ⟨g6, hf⟩ := gd_some hf
          obtain ⟨μ4, e5, hf⟩ := nm_some hf
          refine r_bast C hw (n := 900) (ow_11_0 t0) (j := (nrm (μ x0 1))) rfl g6 (by decide) dX11_putOnTape_38 (fun H locs hw => ?_)
          rw [← e5] at hw
          refine r_aload_n C hl (kx := 0) rfl rfl dX11_putOnTape_39 ?_
          refine r_dup C (rfv_cat _ _) dX11_putOnTape_40 ?_
          refine gf_11_89 C hw t0 dX11_putOnTape_41 ?_
          refine r_iconst C dX11_putOnTape_44 ?_
          refine r_iadd C dX11_putOnTape_45 ?_
          obtain ⟨μ7, e8, hf⟩ := nm_some hf
          refine pf_11_89 C hw t0 dX11_putOnTape_46 (fun H locs hw => ?_)
          rw [← e8] at hw
          exact w_X11_putOnTape_49 C _ ih hf t0 hw (lvh_sub hl [0, 1, 2] rfl)
set_option maxHeartbeats 4000000 in
set_option maxRecDepth 20000 in
theorem w_X11_putOnTape_0 (C : Cx p s m args meth c D b cX11_putOnTape 3 RX11 (none)) {r : Int} {μ' : Mem} {x0 x1 : Int} {μ : Mem} {H : Heap} {locs : List Loc} {ls : Array Slot} (hf : f_X11_putOnTape x0 x1 μ = some (r, μ')) (t0 : isK x0 11) (hw : Hw D b μ s.heap H locs) (hl : lvh b ls 3 [(0, 2, x0), (1, 0, x1)]) : W p l e (rm 0) s m args below meth c H locs 0 0 (QM below args s D b none μ') (F0 m 0 ls []) := by
  unfold f_X11_putOnTape at hf
  refine r_bipush C (by decide) dX11_putOnTape_0 ?_
  refine r_istore_n C hl (by decide) (L' := [(2, 0, 24), (0, 2, x0), (1, 0, x1)]) rfl rfl dX11_putOnTape_2 (fun ls hl => ?_)
  exact w_X11_putOnTape_3 C FU _ _ _ _ _ _ _ hf t0 hw (lvh_sub hl [1, 2, 0] rfl)
theorem c_X11_putOnTape (l : Launch) (D : Ds) (b : Nat) {x0 x1 : Int} {μ μ' : Mem} {r : Int} (t0 : isK x0 11) (hf : f_X11_putOnTape x0 x1 μ = some (r, μ')) : Ctr l D b yX11_putOnTape cX11_putOnTape 3 (none) 0 [(2, x0), (0, x1)] μ none μ' := by
  refine Ctr.of (by decide +kernel) (Nat.le_of_ble_eq_true rfl) ?_
  intro p e s m below meth c C hw ls hl
  exact w_X11_putOnTape_0 C hf t0 hw hl
set_option maxHeartbeats 4000000 in
set_option maxRecDepth 20000 in
theorem w_X11_feed_0 (C : Cx p s m args meth c D b cX11_feed 6 RX11 (some .int)) {r : Int} {μ' : Mem} {x0 x1 x2 x3 x4 x5 : Int} {μ : Mem} {H : Heap} {locs : List Loc} {ls : Array Slot} (hf : f_X11_feed x0 x1 x2 x3 x4 x5 μ = some (r, μ')) (t0 : isK x0 11) (hw : Hw D b μ s.heap H locs) (hl : lvh b ls 6 [(0, 2, x0), (1, 0, x1), (2, 0, x2), (3, 0, x3), (4, 0, x4), (5, 0, x5)]) : W p l e (rm 1) s m args below meth c H locs 0 0 (QM below args s D b (some (.int (jI r))) μ') (F0 m 0 ls []) := by
  unfold f_X11_feed at hf
  refine r_aload_n C hl (kx := 0) rfl rfl dX11_feed_0 ?_
  refine gf_11_89 C hw t0 dX11_feed_1 ?_
  refine r_bipush C (by decide) dX11_feed_4 ?_
  refine r_iadd C dX11_feed_6 ?_
  refine r_sipush C (by decide) dX11_feed_7 ?_
  refine r_icmp_le C (tgt := 16) (by decide) dX11_feed_10 (fun c1 => ?_) (fun c1 => ?_)
  · have hf := ite_t c1 hf
    refine r_aload_n C hl (kx := 0) rfl rfl dX11_feed_16 ?_
    refine r_iload_n C hl (kx := 1) rfl rfl dX11_feed_17 ?_
    obtain ⟨r3, μ2, e4, hf⟩ := bn_some hf
    refine r_callVn C hw (K := [(0, x1)]) ok11 t0 (c_X11_putOnTape l D b t0 e4) mi_X11_putOnTape in_X11_putOnTape se_X11_putOnTape kl_11_92 rfl rfl (lvh_sz hl) (by decide) (Kr := []) rfl (Nat.le_of_ble_eq_true rfl) dX11_feed_18 (fun H locs hw => ?_)
    refine r_aload_n C hl (kx := 0) rfl rfl dX11_feed_21 ?_
    refine r_iload_n C hl (kx := 2) rfl rfl dX11_feed_22 ?_
    obtain ⟨r6, μ5, e7, hf⟩ := bn_some hf
    refine r_callVn C hw (K := [(0, x2)]) ok11 t0 (c_X11_putOnTape l D b t0 e7) mi_X11_putOnTape in_X11_putOnTape se_X11_putOnTape kl_11_92 rfl rfl (lvh_sz hl) (by decide) (Kr := []) rfl (Nat.le_of_ble_eq_true rfl) dX11_feed_23 (fun H locs hw => ?_)
    refine r_aload_n C hl (kx := 0) rfl rfl dX11_feed_26 ?_
    refine r_iload_n C hl (kx := 3) rfl rfl dX11_feed_27 ?_
    obtain ⟨r9, μ8, e10, hf⟩ := bn_some hf
    refine r_callVn C hw (K := [(0, x3)]) ok11 t0 (c_X11_putOnTape l D b t0 e10) mi_X11_putOnTape in_X11_putOnTape se_X11_putOnTape kl_11_92 rfl rfl (lvh_sz hl) (by decide) (Kr := []) rfl (Nat.le_of_ble_eq_true rfl) dX11_feed_28 (fun H locs hw => ?_)
    refine r_aload_n C hl (kx := 0) rfl rfl dX11_feed_31 ?_
    refine r_iload C hl (kx := 4) rfl dX11_feed_32 ?_
    obtain ⟨r12, μ11, e13, hf⟩ := bn_some hf
    refine r_callVn C hw (K := [(0, x4)]) ok11 t0 (c_X11_putOnTape l D b t0 e13) mi_X11_putOnTape in_X11_putOnTape se_X11_putOnTape kl_11_92 rfl rfl (lvh_sz hl) (by decide) (Kr := []) rfl (Nat.le_of_ble_eq_true rfl) dX11_feed_34 (fun H locs hw => ?_)
    refine r_aload_n C hl (kx := 0) rfl rfl dX11_feed_37 ?_
    refine r_iload C hl (kx := 5) rfl dX11_feed_38 ?_
    obtain ⟨r15, μ14, e16, hf⟩ := bn_some hf
    refine r_callVn C hw (K := [(0, x5)]) ok11 t0 (c_X11_putOnTape l D b t0 e16) mi_X11_putOnTape in_X11_putOnTape se_X11_putOnTape kl_11_92 rfl rfl (lvh_sz hl) (by decide) (Kr := []) rfl (Nat.le_of_ble_eq_true rfl) dX11_feed_40 (fun H locs hw => ?_)
    refine r_aload_n C hl (kx := 0) rfl rfl dX11_feed_43 ?_
    refine gf_11_89 C hw t0 dX11_feed_44 ?_
    exact r_iret C hw hf dX11_feed_47
  · have hf := ite_f c1 hf
    refine r_bipush C (by decide) dX11_feed_13 ?_
    exact r_iret C hw hf dX11_feed_15
theorem c_X11_feed (l : Launch) (D : Ds) (b : Nat) {x0 x1 x2 x3 x4 x5 : Int} {μ μ' : Mem} {r : Int} (t0 : isK x0 11) (hf : f_X11_feed x0 x1 x2 x3 x4 x5 μ = some (r, μ')) : Ctr l D b yX11_feed cX11_feed 6 (some .int) 1 [(2, x0), (0, x1), (0, x2), (0, x3), (0, x4), (0, x5)] μ (some (.int (jI r))) μ' := by
  refine Ctr.of (by decide +kernel) (Nat.le_of_ble_eq_true rfl) ?_
  intro p e s m below meth c C hw ls hl
  exact w_X11_feed_0 C hf t0 hw hl
set_option maxHeartbeats 4000000 in
set_option maxRecDepth 20000 in
theorem w_X11_spareLand_109 (C : Cx p s m args meth c D b cX11_spareLand 5 RX11 (some (.object "RutWays$Land"))) {r : Int} {μ' : Mem} (k9 : Int → Int → Int → Mem → Option (Int × Mem)) (h9 : ∀ (x0 x1 x2 : Int) (μ : Mem) (H : Heap) (locs : List Loc) (ls : Array Slot), k9 x0 x1 x2 μ = some (r, μ') → isK x0 11 → Hw D b μ s.heap H locs → lvh b ls 5 [(0, 2, x0), (1, 2, x1), (2, 0, x2)] → W p l e (rm 0) s m args below meth c H locs 0 0 (QM below args s D b (some (rfv b r)) μ') (F0 m 9 ls [])) {x0 x1 x2 : Int} {μ : Mem} {H : Heap} {locs : List Loc} {ls : Array Slot} (hf : f_X11_spareLand_j109 k9 x0 x1 x2 μ = some (r, μ')) (t0 : isK x0 11) (hw : Hw D b μ s.heap H locs) (hl : lvh b ls 5 [(0, 2, x0), (1, 2, x1), (2, 0, x2)]) : W p l e (rm 0) s m args below meth c H locs 0 0 (QM below args s D b (some (rfv b r)) μ') (F0 m 109 ls []) := by
  unfold f_X11_spareLand_j109 at hf
  refine r_iinc C hl (kx := 2) rfl (by decide) (L' := [(2, 0, (x2 + 1)), (0, 2, x0), (1, 2, x1)]) rfl dX11_spareLand_109 (fun ls hl => ?_)
  refine r_goto C (tgt := 9) (by decide) dX11_spareLand_112 ?_
  exact h9 _ _ _ _ _ _ _ hf t0 hw (lvh_sub hl [1, 2, 0] rfl)
set_option maxHeartbeats 4000000 in
set_option maxRecDepth 20000 in
theorem w_X11_spareLand_91 (C : Cx p s m args meth c D b cX11_spareLand 5 RX11 (some (.object "RutWays$Land"))) {r : Int} {μ' : Mem} (k9 : Int → Int → Int → Mem → Option (Int × Mem)) (h9 : ∀ (x0 x1 x2 : Int) (μ : Mem) (H : Heap) (locs : List Loc) (ls : Array Slot), k9 x0 x1 x2 μ = some (r, μ') → isK x0 11 → Hw D b μ s.heap H locs → lvh b ls 5 [(0, 2, x0), (1, 2, x1), (2, 0, x2)] → W p l e (rm 0) s m args below meth c H locs 0 0 (QM below args s D b (some (rfv b r)) μ') (F0 m 9 ls [])) (k43 : Int → Int → Int → Int → Int → Mem → Option (Int × Mem)) (h43 : ∀ (x0 x1 x2 x3 x4 : Int) (μ : Mem) (H : Heap) (locs : List Loc) (ls : Array Slot), k43 x0 x1 x2 x3 x4 μ = some (r, μ') → isK x0 11 → Hw D b μ s.heap H locs → lvh b ls 5 [(0, 2, x0), (1, 2, x1), (2, 0, x2), (3, 0, x3), (4, 0, x4)] → W p l e (rm 0) s m args below meth c H locs 0 0 (QM below args s D b (some (rfv b r)) μ') (F0 m 43 ls [])) {x0 x1 x2 x4 s0 : Int} {μ : Mem} {H : Heap} {locs : List Loc} {ls : Array Slot} (hf : f_X11_spareLand_j91 k9 k43 x0 x1 x2 x4 s0 μ = some (r, μ')) (t0 : isK x0 11) (hw : Hw D b μ s.heap H locs) (hl : lvh b ls 5 [(0, 2, x0), (1, 2, x1), (2, 0, x2), (4, 0, x4)]) : W p l e (rm 0) s m args below meth c H locs 0 0 (QM below args s D b (some (rfv b r)) μ') (F0 m 91 ls [.int (jI s0)]) := by
  unfold f_X11_spareLand_j91 at hf
  refine r_istore_n C hl (by decide) (L' := [(3, 0, s0), (0, 2, x0), (1, 2, x1), (2, 0, x2), (4, 0, x4)]) rfl rfl dX11_spareLand_91 (fun ls hl => ?_)
  refine r_iinc C hl (kx := 4) rfl (by decide) (L' := [(4, 0, (x4 + 1)), (3, 0, s0), (0, 2, x0), (1, 2, x1), (2, 0, x2)]) rfl dX11_spareLand_92 (fun ls hl => ?_)
  refine r_goto C (tgt := 43) (by decide) dX11_spareLand_95 ?_
  exact h43 _ _ _ _ _ _ _ _ _ hf t0 hw (lvh_sub hl [2, 3, 4, 1, 0] rfl)
set_option maxHeartbeats 4000000 in
set_option maxRecDepth 20000 in
theorem w_X11_spareLand_86 (C : Cx p s m args meth c D b cX11_spareLand 5 RX11 (some (.object "RutWays$Land"))) {r : Int} {μ' : Mem} (k9 : Int → Int → Int → Mem → Option (Int × Mem)) (h9 : ∀ (x0 x1 x2 : Int) (μ : Mem) (H : Heap) (locs : List Loc) (ls : Array Slot), k9 x0 x1 x2 μ = some (r, μ') → isK x0 11 → Hw D b μ s.heap H locs → lvh b ls 5 [(0, 2, x0), (1, 2, x1), (2, 0, x2)] → W p l e (rm 0) s m args below meth c H locs 0 0 (QM below args s D b (some (rfv b r)) μ') (F0 m 9 ls [])) (k43 : Int → Int → Int → Int → Int → Mem → Option (Int × Mem)) (h43 : ∀ (x0 x1 x2 x3 x4 : Int) (μ : Mem) (H : Heap) (locs : List Loc) (ls : Array Slot), k43 x0 x1 x2 x3 x4 μ = some (r, μ') → isK x0 11 → Hw D b μ s.heap H locs → lvh b ls 5 [(0, 2, x0), (1, 2, x1), (2, 0, x2), (3, 0, x3), (4, 0, x4)] → W p l e (rm 0) s m args below meth c H locs 0 0 (QM below args s D b (some (rfv b r)) μ') (F0 m 43 ls [])) {x0 x1 x2 x4 : Int} {μ : Mem} {H : Heap} {locs : List Loc} {ls : Array Slot} (hf : f_X11_spareLand_j86 k9 k43 x0 x1 x2 x4 μ = some (r, μ')) (t0 : isK x0 11) (hw : Hw D b μ s.heap H locs) (hl : lvh b ls 5 [(0, 2, x0), (1, 2, x1), (2, 0, x2), (4, 0, x4)]) : W p l e (rm 0) s m args below meth c H locs 0 0 (QM below args s D b (some (rfv b r)) μ') (F0 m 86 ls []) := by
  unfold f_X11_spareLand_j86 at hf
  refine r_iconst C dX11_spareLand_86 ?_
  refine r_goto C (tgt := 91) (by decide) dX11_spareLand_87 ?_
  exact w_X11_spareLand_91 C _ h9 _ h43 hf t0 hw (lvh_sub hl [0, 1, 2, 3] rfl)
set_option maxHeartbeats 4000000 in
set_option maxRecDepth 20000 in
theorem w_X11_spareLand_90 (C : Cx p s m args meth c D b cX11_spareLand 5 RX11 (some (.object "RutWays$Land"))) {r : Int} {μ' : Mem} (k9 : Int → Int → Int → Mem → Option (Int × Mem)) (h9 : ∀ (x0 x1 x2 : Int) (μ : Mem) (H : Heap) (locs : List Loc) (ls : Array Slot), k9 x0 x1 x2 μ = some (r, μ') → isK x0 11 → Hw D b μ s.heap H locs → lvh b ls 5 [(0, 2, x0), (1, 2, x1), (2, 0, x2)] → W p l e (rm 0) s m args below meth c H locs 0 0 (QM below args s D b (some (rfv b r)) μ') (F0 m 9 ls [])) (k43 : Int → Int → Int → Int → Int → Mem → Option (Int × Mem)) (h43 : ∀ (x0 x1 x2 x3 x4 : Int) (μ : Mem) (H : Heap) (locs : List Loc) (ls : Array Slot), k43 x0 x1 x2 x3 x4 μ = some (r, μ') → isK x0 11 → Hw D b μ s.heap H locs → lvh b ls 5 [(0, 2, x0), (1, 2, x1), (2, 0, x2), (3, 0, x3), (4, 0, x4)] → W p l e (rm 0) s m args below meth c H locs 0 0 (QM below args s D b (some (rfv b r)) μ') (F0 m 43 ls [])) {x0 x1 x2 x4 : Int} {μ : Mem} {H : Heap} {locs : List Loc} {ls : Array Slot} (hf : f_X11_spareLand_j90 k9 k43 x0 x1 x2 x4 μ = some (r, μ')) (t0 : isK x0 11) (hw : Hw D b μ s.heap H locs) (hl : lvh b ls 5 [(0, 2, x0), (1, 2, x1), (2, 0, x2), (4, 0, x4)]) : W p l e (rm 0) s m args below meth c H locs 0 0 (QM below args s D b (some (rfv b r)) μ') (F0 m 90 ls []) := by
  unfold f_X11_spareLand_j90 at hf
  refine r_iconst C dX11_spareLand_90 ?_
  exact w_X11_spareLand_91 C _ h9 _ h43 hf t0 hw (lvh_sub hl [0, 1, 2, 3] rfl)
set_option maxHeartbeats 4000000 in
set_option maxRecDepth 20000 in
theorem w_X11_spareLand_43 (C : Cx p s m args meth c D b cX11_spareLand 5 RX11 (some (.object "RutWays$Land"))) {r : Int} {μ' : Mem} (k9 : Int → Int → Int → Mem → Option (Int × Mem)) (h9 : ∀ (x0 x1 x2 : Int) (μ : Mem) (H : Heap) (locs : List Loc) (ls : Array Slot), k9 x0 x1 x2 μ = some (r, μ') → isK x0 11 → Hw D b μ s.heap H locs → lvh b ls 5 [(0, 2, x0), (1, 2, x1), (2, 0, x2)] → W p l e (rm 0) s m args below meth c H locs 0 0 (QM below args s D b (some (rfv b r)) μ') (F0 m 9 ls [])) : ∀ (n : Nat) (x0 x1 x2 x3 x4 : Int) (μ : Mem) (H : Heap) (locs : List Loc) (ls : Array Slot), f_X11_spareLand_w43 k9 n x0 x1 x2 x3 x4 μ = some (r, μ') → isK x0 11 → Hw D b μ s.heap H locs → lvh b ls 5 [(0, 2, x0), (1, 2, x1), (2, 0, x2), (3, 0, x3), (4, 0, x4)] → W p l e (rm 0) s m args below meth c H locs 0 0 (QM below args s D b (some (rfv b r)) μ') (F0 m 43 ls []) := by
  intro n
  induction n with
  | zero => intro x0 x1 x2 x3 x4 μ H locs ls hf; cases hf
  | succ n ih =>
    intro x0 x1 x2 x3 x4 μ H locs ls hf t0 hw hl
    rw [f_X11_spareLand_w43.eq_2] at hf
    refine r_iload C hl (kx := 4) rfl dX11_spareLand_43 ?_
    refine r_aload_n C hl (kx := 0) rfl rfl dX11_spareLand_45 ?_
    refine gf_11_50 C hw t0 dX11_spareLand_46 ?_
    refine r_alen6 C hw (n := 2) (ow_11_9 t0) (by decide) (z := 2) rfl dX11_spareLand_49 ?_
    refine r_icmp_ge C (tgt := 98) (by decide) dX11_spareLand_50 (fun c1 => ?_) (fun c1 => ?_)
    · have hf := ite_t c1 hf
      refine r_iload_n C hl (kx := 3) rfl rfl dX11_spareLand_98 ?_
      refine r_if_ne C (tgt := 109) (by decide) dX11_spareLand_99 (fun c2 => ?_) (fun c2 => ?_)
      · have hf := ite_f c2 hf
        exact w_X11_spareLand_109 C _ h9 hf t0 hw (lvh_sub hl [0, 1, 2] rfl)
      · have hf := ite_t c2 hf
        refine r_aload_n C hl (kx := 0) rfl rfl dX11_spareLand_102 ?_
        refine gf_11_26 C hw t0 dX11_spareLand_103 ?_
        refine r_iload_n C hl (kx := 2) rfl rfl dX11_spareLand_106 ?_
        obtain ⟨g3, hf⟩ := gd_some hf
        refine r_aald5 C hw (n := 4) (ow_11_5 t0) (j := (nrm x2)) rfl g3 (by decide) dX11_spareLand_107 ?_
        refine r_astore_n C hl (by decide) (L' := [(1, 2, ((x0 + 5) + 1 + 13 * (nrm x2))), (0, 2, x0), (2, 0, x2), (3, 0, x3), (4, 0, x4)]) rfl rfl dX11_spareLand_108 (fun ls hl => ?_)
        exact w_X11_spareLand_109 C _ h9 hf t0 hw (lvh_sub hl [1, 0, 2] rfl)
    · have hf := ite_f c1 hf
      refine r_iload_n C hl (kx := 3) rfl rfl dX11_spareLand_53 ?_
      refine r_if_ne C (tgt := 86) (by decide) dX11_spareLand_54 (fun c4 => ?_) (fun c4 => ?_)
      · have hf := ite_f c4 hf
        exact w_X11_spareLand_86 C _ h9 _ ih hf t0 hw (lvh_sub hl [0, 1, 2, 4] rfl)
      · have hf := ite_t c4 hf
        refine r_aload_n C hl (kx := 0) rfl rfl dX11_spareLand_57 ?_
        refine gf_11_50 C hw t0 dX11_spareLand_58 ?_
        refine r_iload C hl (kx := 4) rfl dX11_spareLand_61 ?_
        obtain ⟨g5, hf⟩ := gd_some hf
        refine r_aald6 C hw (n := 2) (ow_11_9 t0) (j := (nrm x4)) rfl g5 (by decide) dX11_spareLand_63 ?_
        refine r_ifnull C (tgt := 90) (by decide) dX11_spareLand_64 (fun c6 => ?_) (fun c6 => ?_)
        · have hf := ite_t c6 hf
          exact w_X11_spareLand_90 C _ h9 _ ih hf t0 hw (lvh_sub hl [0, 1, 2, 4] rfl)
        · have hf := ite_f c6 hf
          refine r_aload_n C hl (kx := 0) rfl rfl dX11_spareLand_67 ?_
          refine gf_11_26 C hw t0 dX11_spareLand_68 ?_
          refine r_iload_n C hl (kx := 2) rfl rfl dX11_spareLand_71 ?_
          obtain ⟨g7, hf⟩ := gd_some hf
          refine r_aald5 C hw (n := 4) (ow_11_5 t0) (j := (nrm x2)) rfl g7 (by decide) dX11_spareLand_72 ?_
          refine r_aload_n C hl (kx := 0) rfl rfl dX11_spareLand_73 ?_
          refine gf_11_50 C hw t0 dX11_spareLand_74 ?_
          refine r_iload C hl (kx := 4) rfl dX11_spareLand_77 ?_
          obtain ⟨g8, hf⟩ := gd_some hf
          refine r_aald6 C hw (n := 2) (ow_11_9 t0) (j := (nrm x4)) rfl g8 (by decide) dX11_spareLand_79 ?_
          refine gf_11_120 C hw (el_60002 (ow_11_9 t0) g8) dX11_spareLand_80 ?_
          obtain ⟨g9, hf⟩ := gd_some hf
          refine r_acmp_ne C (el_50004 (ow_11_5 t0) g7).1 g9.1 (tgt := 90) (by decide) dX11_spareLand_83 (fun c10 => ?_) (fun c10 => ?_)
          · have hf := ite_f c10 hf
            exact w_X11_spareLand_90 C _ h9 _ ih hf t0 hw (lvh_sub hl [0, 1, 2, 4] rfl)
          · have hf := ite_t c10 hf
            exact w_X11_spareLand_86 C _ h9 _ ih hf t0 hw (lvh_sub hl [0, 1, 2, 4] rfl)
set_option maxHeartbeats 4000000 in
set_option maxRecDepth 20000 in
theorem w_X11_spareLand_39 (C : Cx p s m args meth c D b cX11_spareLand 5 RX11 (some (.object "RutWays$Land"))) {r : Int} {μ' : Mem} (k9 : Int → Int → Int → Mem → Option (Int × Mem)) (h9 : ∀ (x0 x1 x2 : Int) (μ : Mem) (H : Heap) (locs : List Loc) (ls : Array Slot), k9 x0 x1 x2 μ = some (r, μ') → isK x0 11 → Hw D b μ s.heap H locs → lvh b ls 5 [(0, 2, x0), (1, 2, x1), (2, 0, x2)] → W p l e (rm 0) s m args below meth c H locs 0 0 (QM below args s D b (some (rfv b r)) μ') (F0 m 9 ls [])) {x0 x1 x2 s0 : Int} {μ : Mem} {H : Heap} {locs : List Loc} {ls : Array Slot} (hf : f_X11_spareLand_j39 k9 x0 x1 x2 s0 μ = some (r, μ')) (t0 : isK x0 11) (hw : Hw D b μ s.heap H locs) (hl : lvh b ls 5 [(0, 2, x0), (1, 2, x1), (2, 0, x2)]) : W p l e (rm 0) s m args below meth c H locs 0 0 (QM below args s D b (some (rfv b r)) μ') (F0 m 39 ls [.int (jI s0)]) := by
  unfold f_X11_spareLand_j39 at hf
  refine r_istore_n C hl (by decide) (L' := [(3, 0, s0), (0, 2, x0), (1, 2, x1), (2, 0, x2)]) rfl rfl dX11_spareLand_39 (fun ls hl => ?_)
  refine r_iconst C dX11_spareLand_40 ?_
  refine r_istore C hl (by decide) (L' := [(4, 0, 0), (3, 0, s0), (0, 2, x0), (1, 2, x1), (2, 0, x2)]) rfl dX11_spareLand_41 (fun ls hl => ?_)
  exact w_X11_spareLand_43 C _ h9 FU _ _ _ _ _ _ _ _ _ hf t0 hw (lvh_sub hl [2, 3, 4, 1, 0] rfl)
set_option maxHeartbeats 4000000 in
set_option maxRecDepth 20000 in
theorem w_X11_spareLand_9 (C : Cx p s m args meth c D b cX11_spareLand 5 RX11 (some (.object "RutWays$Land"))) {r : Int} {μ' : Mem} : ∀ (n : Nat) (x0 x1 x2 : Int) (μ : Mem) (H : Heap) (locs : List Loc) (ls : Array Slot), f_X11_spareLand_w9 n x0 x1 x2 μ = some (r, μ') → isK x0 11 → Hw D b μ s.heap H locs → lvh b ls 5 [(0, 2, x0), (1, 2, x1), (2, 0, x2)] → W p l e (rm 0) s m args below meth c H locs 0 0 (QM below args s D b (some (rfv b r)) μ') (F0 m 9 ls []) := by
  intro n
  induction n with
  | zero => intro x0 x1 x2 μ H locs ls hf; cases hf
  | succ n ih =>
    intro x0 x1 x2 μ H locs ls hf t0 hw hl
    rw [f_X11_spareLand_w9.eq_2] at hf
    refine r_iload_n C hl (kx := 2) rfl rfl dX11_spareLand_9 ?_
    refine r_aload_n C hl (kx := 0) rfl rfl dX11_spareLand_10 ?_
    refine gf_11_26 C hw t0 dX11_spareLand_11 ?_
    refine r_alen5 C hw (n := 4) (ow_11_5 t0) (by decide) (z := 4) rfl dX11_spareLand_14 ?_
    refine r_icmp_ge C (tgt := 115) (by decide) dX11_spareLand_15 (fun c1 => ?_) (fun c1 => ?_)
    · have hf := ite_t c1 hf
      refine r_aload_n C hl (kx := 1) rfl rfl dX11_spareLand_115 ?_
      exact r_aret C hw hf dX11_spareLand_116
    · have hf := ite_f c1 hf
      refine r_aload_n C hl (kx := 0) rfl rfl dX11_spareLand_18 ?_
      refine gf_11_26 C hw t0 dX11_spareLand_19 ?_
      refine r_iload_n C hl (kx := 2) rfl rfl dX11_spareLand_22 ?_
      obtain ⟨g2, hf⟩ := gd_some hf
      refine r_aald5 C hw (n := 4) (ow_11_5 t0) (j := (nrm x2)) rfl g2 (by decide) dX11_spareLand_23 ?_
      refine r_aload_n C hl (kx := 0) rfl rfl dX11_spareLand_24 ?_
      refine gf_11_36 C hw t0 dX11_spareLand_25 ?_
      refine gf_11_120 C hw (ow_11_6 t0) dX11_spareLand_28 ?_
      obtain ⟨g3, hf⟩ := gd_some hf
      refine r_acmp_ne C (el_50004 (ow_11_5 t0) g2).1 g3.1 (tgt := 38) (by decide) dX11_spareLand_31 (fun c4 => ?_) (fun c4 => ?_)
      · have hf := ite_f c4 hf
        refine r_iconst C dX11_spareLand_38 ?_
        exact w_X11_spareLand_39 C _ ih hf t0 hw (lvh_sub hl [0, 1, 2] rfl)
      · have hf := ite_t c4 hf
        refine r_iconst C dX11_spareLand_34 ?_
        refine r_goto C (tgt := 39) (by decide) dX11_spareLand_35 ?_
        exact w_X11_spareLand_39 C _ ih hf t0 hw (lvh_sub hl [0, 1, 2] rfl)
set_option maxHeartbeats 4000000 in
set_option maxRecDepth 20000 in
theorem w_X11_spareLand_0 (C : Cx p s m args meth c D b cX11_spareLand 5 RX11 (some (.object "RutWays$Land"))) {r : Int} {μ' : Mem} {x0 : Int} {μ : Mem} {H : Heap} {locs : List Loc} {ls : Array Slot} (hf : f_X11_spareLand x0 μ = some (r, μ')) (t0 : isK x0 11) (hw : Hw D b μ s.heap H locs) (hl : lvh b ls 5 [(0, 2, x0)]) : W p l e (rm 0) s m args below meth c H locs 0 0 (QM below args s D b (some (rfv b r)) μ') (F0 m 0 ls []) := by
  unfold f_X11_spareLand at hf
  refine r_aload_n C hl (kx := 0) rfl rfl dX11_spareLand_0 ?_
  refine gf_11_26 C hw t0 dX11_spareLand_1 ?_
  refine r_iconst C dX11_spareLand_4 ?_
  refine r_aald5 C hw (n := 4) (ow_11_5 t0) (j := 0) (by decide) (by decide) (by decide) dX11_spareLand_5 ?_
  refine r_astore_n C hl (by decide) (L' := [(1, 2, ((x0 + 5) + 1 + 13 * 0)), (0, 2, x0)]) rfl rfl dX11_spareLand_6 (fun ls hl => ?_)
  refine r_iconst C dX11_spareLand_7 ?_
  refine r_istore_n C hl (by decide) (L' := [(2, 0, 0), (1, 2, ((x0 + 5) + 1 + 13 * 0)), (0, 2, x0)]) rfl rfl dX11_spareLand_8 (fun ls hl => ?_)
  exact w_X11_spareLand_9 C FU _ _ _ _ _ _ _ hf t0 hw (lvh_sub hl [2, 1, 0] rfl)
theorem c_X11_spareLand (l : Launch) (D : Ds) (b : Nat) {x0 : Int} {μ μ' : Mem} {r : Int} (t0 : isK x0 11) (hf : f_X11_spareLand x0 μ = some (r, μ')) : Ctr l D b yX11_spareLand cX11_spareLand 5 (some (.object "RutWays$Land")) 0 [(2, x0)] μ (some (rfv b r)) μ' := by
  refine Ctr.of (by decide +kernel) (Nat.le_of_ble_eq_true rfl) ?_
  intro p e s m below meth c C hw ls hl
  exact w_X11_spareLand_0 C hf t0 hw hl
set_option maxHeartbeats 4000000 in
set_option maxRecDepth 20000 in
theorem w_X11_land_0 (C : Cx p s m args meth c D b cX11_land 3 RX11 (some .int)) {r : Int} {μ' : Mem} {x0 x1 : Int} {μ : Mem} {H : Heap} {locs : List Loc} {ls : Array Slot} (hf : f_X11_land x0 x1 μ = some (r, μ')) (t0 : isK x0 11) (hw : Hw D b μ s.heap H locs) (hl : lvh b ls 3 [(0, 2, x0), (1, 0, x1)]) : W p l e (rm 70) s m args below meth c H locs 0 0 (QM below args s D b (some (.int (jI r))) μ') (F0 m 0 ls []) := by
  unfold f_X11_land at hf
  refine r_iload_n C hl (kx := 1) rfl rfl dX11_land_0 ?_
  refine r_if_lt C (tgt := 12) (by decide) dX11_land_1 (fun c1 => ?_) (fun c1 => ?_)
  · have hf := ite_t c1 hf
    refine r_bipush C (by decide) dX11_land_12 ?_
    exact r_iret C hw hf dX11_land_14
  · have hf := ite_f c1 hf
    refine r_iload_n C hl (kx := 1) rfl rfl dX11_land_4 ?_
    refine r_aload_n C hl (kx := 0) rfl rfl dX11_land_5 ?_
    refine gf_11_89 C hw t0 dX11_land_6 ?_
    refine r_icmp_le C (tgt := 15) (by decide) dX11_land_9 (fun c2 => ?_) (fun c2 => ?_)
    · have hf := ite_t c2 hf
      refine r_aload_n C hl (kx := 0) rfl rfl dX11_land_15 ?_
      refine r_iconst C dX11_land_16 ?_
      obtain ⟨μ3, e4, hf⟩ := nm_some hf
      refine pf_11_89 C hw t0 dX11_land_17 (fun H locs hw => ?_)
      rw [← e4] at hw
      refine r_aload_n C hl (kx := 0) rfl rfl dX11_land_20 ?_
      obtain ⟨r6, μ5, e7, hf⟩ := bn_some hf
      refine r_callVv C hw (K := []) ok11 t0 (c_X11_spareLand l D b t0 e7) mi_X11_spareLand in_X11_spareLand se_X11_spareLand kl_11_96 rfl rfl (lvh_sz hl) (by decide) (Kr := []) rfl (Nat.le_of_ble_eq_true rfl) dX11_land_21 (fun H locs hw => ?_)
      refine r_astore_n C hl (by decide) (L' := [(2, 2, r6), (0, 2, x0), (1, 0, x1)]) rfl rfl dX11_land_24 (fun ls hl => ?_)
      refine r_aload_n C hl (kx := 1) rfl rfl dX11_land_25 ?_
      refine r_aload_n C hl (kx := 1) rfl rfl dX11_land_26 ?_
      refine gf_11_16 C hw t0 dX11_land_27 ?_
      refine r_aload_n C hl (kx := 0) rfl rfl dX11_land_30 ?_
      refine r_aload_n C hl (kx := 1) rfl rfl dX11_land_31 ?_
      refine gf_11_9 C hw t0 dX11_land_32 ?_
      refine r_iload_n C hl (kx := 2) rfl rfl dX11_land_35 ?_
      obtain ⟨r9, μ8, e10, hf⟩ := bn_some hf
      refine r_callVv C hw (K := [(2, r6), (2, (x0 + 1)), (0, x1)]) ok7 (ow_11_2 t0) (c_X7_readInto l D b (ow_11_2 t0) e10) mi_X7_readInto in_X7_readInto se_X7_readInto kl_11_100 rfl rfl (lvh_sz hl) (by decide) (Kr := [(2, x0)]) rfl (Nat.le_of_ble_eq_true rfl) dX11_land_36 (fun H locs hw => ?_)
      obtain ⟨μ11, e12, hf⟩ := nm_some hf
      refine pf_11_104 C hw t0 dX11_land_39 (fun H locs hw => ?_)
      rw [← e12] at hw
      refine r_aload_n C hl (kx := 1) rfl rfl dX11_land_42 ?_
      refine r_aload_n C hl (kx := 1) rfl rfl dX11_land_43 ?_
      refine gf_11_16 C hw t0 dX11_land_44 ?_
      obtain ⟨r14, μ13, e15, hf⟩ := bn_some hf
      refine r_callVv C hw (K := []) ok7 (ow_11_2 t0) (c_X7_placeOfFault l D b (ow_11_2 t0) e15) mi_X7_placeOfFault in_X7_placeOfFault se_X7_placeOfFault kl_11_107 rfl rfl (lvh_sz hl) (by decide) (Kr := [(2, x0)]) rfl (Nat.le_of_ble_eq_true rfl) dX11_land_47 (fun H locs hw => ?_)
      obtain ⟨μ16, e17, hf⟩ := nm_some hf
      refine pf_11_20 C hw t0 dX11_land_50 (fun H locs hw => ?_)
      rw [← e17] at hw
      refine r_aload_n C hl (kx := 1) rfl rfl dX11_land_53 ?_
      refine gf_11_104 C hw t0 dX11_land_54 ?_
      refine r_if_eq C (tgt := 68) (by decide) dX11_land_57 (fun c18 => ?_) (fun c18 => ?_)
      · have hf := ite_t c18 hf
        refine r_aload_n C hl (kx := 1) rfl rfl dX11_land_68 ?_
        refine gf_11_36 C hw t0 dX11_land_69 ?_
        refine r_aload_n C hl (kx := 0) rfl rfl dX11_land_72 ?_
        obtain ⟨r20, μ19, e21, hf⟩ := bn_some hf
        refine r_callVn C hw (K := [(2, r6)]) ok0 (ow_11_6 t0) (c_X0_beginIn l D b (ow_11_6 t0) e21) mi_X0_beginIn in_X0_beginIn se_X0_beginIn kl_11_111 rfl rfl (lvh_sz hl) (by decide) (Kr := []) rfl (Nat.le_of_ble_eq_true rfl) dX11_land_73 (fun H locs hw => ?_)
        refine r_aload_n C hl (kx := 1) rfl rfl dX11_land_76 ?_
        refine gf_11_46 C hw t0 dX11_land_77 ?_
        obtain ⟨r23, μ22, e24, hf⟩ := bn_some hf
        refine r_callVn C hw (K := []) ok2 (ow_11_8 t0) (c_X2_forgetAll l D b (ow_11_8 t0) e24) mi_X2_forgetAll in_X2_forgetAll se_X2_forgetAll kl_11_114 rfl rfl (lvh_sz hl) (by decide) (Kr := []) rfl (Nat.le_of_ble_eq_true rfl) dX11_land_80 (fun H locs hw => ?_)
        refine r_aload_n C hl (kx := 0) rfl rfl dX11_land_83 ?_
        obtain ⟨g25, hf⟩ := gd_some hf
        refine gf_11_117 C hw g25 dX11_land_84 ?_
        exact r_iret C hw hf dX11_land_87
      · have hf := ite_f c18 hf
        refine r_bipush C (by decide) dX11_land_60 ?_
        refine r_aload_n C hl (kx := 1) rfl rfl dX11_land_62 ?_
        refine gf_11_104 C hw t0 dX11_land_63 ?_
        refine r_isub C dX11_land_66 ?_
        exact r_iret C hw hf dX11_land_67
    · have hf := ite_f c2 hf
      refine r_bipush C (by decide) dX11_land_12 ?_
      exact r_iret C hw hf dX11_land_14
theorem c_X11_land (l : Launch) (D : Ds) (b : Nat) {x0 x1 : Int} {μ μ' : Mem} {r : Int} (t0 : isK x0 11) (hf : f_X11_land x0 x1 μ = some (r, μ')) : Ctr l D b yX11_land cX11_land 3 (some .int) 70 [(2, x0), (0, x1)] μ (some (.int (jI r))) μ' := by
  refine Ctr.of (by decide +kernel) (Nat.le_of_ble_eq_true rfl) ?_
  intro p e s m below meth c C hw ls hl
  exact w_X11_land_0 C hf t0 hw hl
set_option maxHeartbeats 4000000 in
set_option maxRecDepth 20000 in
theorem w_X11_fault_0 (C : Cx p s m args meth c D b cX11_fault 2 RX11 (some .int)) {r : Int} {μ' : Mem} {x0 x1 : Int} {μ : Mem} {H : Heap} {locs : List Loc} {ls : Array Slot} (hf : f_X11_fault x0 x1 μ = some (r, μ')) (t0 : isK x0 11) (hw : Hw D b μ s.heap H locs) (hl : lvh b ls 2 [(0, 2, x0), (1, 0, x1)]) : W p l e (rm 0) s m args below meth c H locs 0 0 (QM below args s D b (some (.int (jI r))) μ') (F0 m 0 ls []) := by
  unfold f_X11_fault at hf
  refine r_iload_n C hl (kx := 1) rfl rfl dX11_fault_0 ?_
  rcases Decidable.em (nrm x1 = 0) with c1 | c1
  · have hf := ite_t c1 hf
    refine r_look C (tgt := 28) (off := 27) (by decide) (by rw [c1]; rfl) (by decide) dX11_fault_1 ?_
    refine r_aload_n C hl (kx := 0) rfl rfl dX11_fault_28 ?_
    refine gf_11_104 C hw t0 dX11_fault_29 ?_
    exact r_iret C hw hf dX11_fault_32
  have hf := ite_f c1 hf
  rcases Decidable.em (nrm x1 = 1) with c2 | c2
  · have hf := ite_t c2 hf
    refine r_look C (tgt := 33) (off := 32) (by decide) (by rw [c2]; rfl) (by decide) dX11_fault_1 ?_
    refine r_aload_n C hl (kx := 0) rfl rfl dX11_fault_33 ?_
    refine gf_11_20 C hw t0 dX11_fault_34 ?_
    exact r_iret C hw hf dX11_fault_37
  have hf := ite_f c2 hf
  refine r_look C (tgt := 38) (off := 37) (by decide) (by refine (look_ne c1).trans ?_; refine (look_ne c2).trans ?_; rfl) (by decide) dX11_fault_1 ?_
  refine r_iconst C dX11_fault_38 ?_
  exact r_iret C hw hf dX11_fault_39
theorem c_X11_fault (l : Launch) (D : Ds) (b : Nat) {x0 x1 : Int} {μ μ' : Mem} {r : Int} (t0 : isK x0 11) (hf : f_X11_fault x0 x1 μ = some (r, μ')) : Ctr l D b yX11_fault cX11_fault 2 (some .int) 0 [(2, x0), (0, x1)] μ (some (.int (jI r))) μ' := by
  refine Ctr.of (by decide +kernel) (Nat.le_of_ble_eq_true rfl) ?_
  intro p e s m below meth c C hw ls hl
  exact w_X11_fault_0 C hf t0 hw hl
set_option maxHeartbeats 4000000 in
set_option maxRecDepth 20000 in
theorem w_X11_lane_0 (C : Cx p s m args meth c D b cX11_lane 3 RX11 (some .int)) {r : Int} {μ' : Mem} {x0 x1 x2 : Int} {μ : Mem} {H : Heap} {locs : List Loc} {ls : Array Slot} (hf : f_X11_lane x0 x1 x2 μ = some (r, μ')) (t0 : isK x0 11) (hw : Hw D b μ s.heap H locs) (hl : lvh b ls 3 [(0, 2, x0), (1, 0, x1), (2, 0, x2)]) : W p l e (rm 4) s m args below meth c H locs 0 0 (QM below args s D b (some (.int (jI r))) μ') (F0 m 0 ls []) := by
  unfold f_X11_lane at hf
  refine r_aload_n C hl (kx := 0) rfl rfl dX11_lane_0 ?_
  refine gf_11_36 C hw t0 dX11_lane_1 ?_
  refine gf_11_120 C hw (ow_11_6 t0) dX11_lane_4 ?_
  refine r_iload_n C hl (kx := 1) rfl rfl dX11_lane_7 ?_
  obtain ⟨g1, hf⟩ := gd_some hf
  obtain ⟨r3, μ2, e4, hf⟩ := bn_some hf
  refine r_callVv C hw (K := [(0, x1)]) ok3 g1 (c_X3_hasLane l D b g1 e4) mi_X3_hasLane in_X3_hasLane se_X3_hasLane kl_11_124 rfl rfl (lvh_sz hl) (by decide) (Kr := []) rfl (Nat.le_of_ble_eq_true rfl) dX11_lane_8 (fun H locs hw => ?_)
  refine r_if_ne C (tgt := 17) (by decide) dX11_lane_11 (fun c5 => ?_) (fun c5 => ?_)
  · have hf := ite_f c5 hf
    refine r_iload_n C hl (kx := 2) rfl rfl dX11_lane_17 ?_
    rcases Decidable.em (nrm x2 = 0) with c6 | c6
    · have hf := ite_t c6 hf
      refine r_tabIn C (tgt := 56) c6 (by decide) (by decide) rfl (by decide) dX11_lane_18 ?_
      refine r_aload_n C hl (kx := 0) rfl rfl dX11_lane_56 ?_
      refine gf_11_36 C hw t0 dX11_lane_57 ?_
      refine gf_11_120 C hw (ow_11_6 t0) dX11_lane_60 ?_
      obtain ⟨g7, hf⟩ := gd_some hf
      refine gf_11_128 C hw g7 dX11_lane_63 ?_
      refine r_iload_n C hl (kx := 1) rfl rfl dX11_lane_66 ?_
      obtain ⟨g8, hf⟩ := gd_some hf
      refine r_iald C hw (n := 9) (ow_3_8 g7) (j := (nrm x1)) rfl g8 (by decide) dX11_lane_67 ?_
      exact r_iret C hw hf dX11_lane_68
    have hf := ite_f c6 hf
    rcases Decidable.em (nrm x2 = 1) with c9 | c9
    · have hf := ite_t c9 hf
      refine r_tabIn C (tgt := 69) c9 (by decide) (by decide) rfl (by decide) dX11_lane_18 ?_
      refine r_aload_n C hl (kx := 0) rfl rfl dX11_lane_69 ?_
      refine gf_11_36 C hw t0 dX11_lane_70 ?_
      refine gf_11_120 C hw (ow_11_6 t0) dX11_lane_73 ?_
      obtain ⟨g10, hf⟩ := gd_some hf
      refine gf_11_132 C hw g10 dX11_lane_76 ?_
      refine r_iload_n C hl (kx := 1) rfl rfl dX11_lane_79 ?_
      obtain ⟨g11, hf⟩ := gd_some hf
      refine r_iald C hw (n := 9) (ow_3_9 g10) (j := (nrm x1)) rfl g11 (by decide) dX11_lane_80 ?_
      exact r_iret C hw hf dX11_lane_81
    have hf := ite_f c9 hf
    rcases Decidable.em (nrm x2 = 2) with c12 | c12
    · have hf := ite_t c12 hf
      refine r_tabIn C (tgt := 82) c12 (by decide) (by decide) rfl (by decide) dX11_lane_18 ?_
      refine r_aload_n C hl (kx := 0) rfl rfl dX11_lane_82 ?_
      refine gf_11_36 C hw t0 dX11_lane_83 ?_
      refine gf_11_135 C hw (ow_11_6 t0) dX11_lane_86 ?_
      refine r_iload_n C hl (kx := 1) rfl rfl dX11_lane_89 ?_
      obtain ⟨g13, hf⟩ := gd_some hf
      refine r_iald C hw (n := 9) (ow_0_5 (ow_11_6 t0)) (j := (nrm x1)) rfl g13 (by decide) dX11_lane_90 ?_
      exact r_iret C hw hf dX11_lane_91
    have hf := ite_f c12 hf
    rcases Decidable.em (nrm x2 = 3) with c14 | c14
    · have hf := ite_t c14 hf
      refine r_tabIn C (tgt := 92) c14 (by decide) (by decide) rfl (by decide) dX11_lane_18 ?_
      refine r_aload_n C hl (kx := 0) rfl rfl dX11_lane_92 ?_
      refine gf_11_36 C hw t0 dX11_lane_93 ?_
      refine gf_11_120 C hw (ow_11_6 t0) dX11_lane_96 ?_
      obtain ⟨g15, hf⟩ := gd_some hf
      refine gf_11_138 C hw g15 dX11_lane_99 ?_
      refine r_iload_n C hl (kx := 1) rfl rfl dX11_lane_102 ?_
      obtain ⟨g16, hf⟩ := gd_some hf
      refine r_iald C hw (n := 9) (ow_3_11 g15) (j := (nrm x1)) rfl g16 (by decide) dX11_lane_103 ?_
      exact r_iret C hw hf dX11_lane_104
    have hf := ite_f c14 hf
    rcases Decidable.em (nrm x2 = 4) with c17 | c17
    · have hf := ite_t c17 hf
      refine r_tabIn C (tgt := 105) c17 (by decide) (by decide) rfl (by decide) dX11_lane_18 ?_
      refine r_aload_n C hl (kx := 0) rfl rfl dX11_lane_105 ?_
      refine gf_11_36 C hw t0 dX11_lane_106 ?_
      refine gf_11_120 C hw (ow_11_6 t0) dX11_lane_109 ?_
      obtain ⟨g18, hf⟩ := gd_some hf
      refine gf_11_141 C hw g18 dX11_lane_112 ?_
      refine r_iload_n C hl (kx := 1) rfl rfl dX11_lane_115 ?_
      obtain ⟨g19, hf⟩ := gd_some hf
      refine r_iald C hw (n := 9) (ow_3_12 g18) (j := (nrm x1)) rfl g19 (by decide) dX11_lane_116 ?_
      exact r_iret C hw hf dX11_lane_117
    have hf := ite_f c17 hf
    rcases Decidable.em (nrm x2 = 5) with c20 | c20
    · have hf := ite_t c20 hf
      refine r_tabIn C (tgt := 118) c20 (by decide) (by decide) rfl (by decide) dX11_lane_18 ?_
      refine r_aload_n C hl (kx := 0) rfl rfl dX11_lane_118 ?_
      refine gf_11_36 C hw t0 dX11_lane_119 ?_
      refine r_iload_n C hl (kx := 1) rfl rfl dX11_lane_122 ?_
      obtain ⟨r22, μ21, e23, hf⟩ := bn_some hf
      refine r_callVv C hw (K := [(0, x1)]) ok0 (ow_11_6 t0) (c_X0_isOpen l D b (ow_11_6 t0) e23) mi_X0_isOpen in_X0_isOpen se_X0_isOpen kl_11_144 rfl rfl (lvh_sz hl) (by decide) (Kr := []) rfl (Nat.le_of_ble_eq_true rfl) dX11_lane_123 (fun H locs hw => ?_)
      refine r_if_eq C (tgt := 133) (by decide) dX11_lane_126 (fun c24 => ?_) (fun c24 => ?_)
      · have hf := ite_t c24 hf
        refine r_iconst C dX11_lane_133 ?_
        exact r_iret C hw hf dX11_lane_134
      · have hf := ite_f c24 hf
        refine r_iconst C dX11_lane_129 ?_
        refine r_goto C (tgt := 134) (by decide) dX11_lane_130 ?_
        exact r_iret C hw hf dX11_lane_134
    have hf := ite_f c20 hf
    refine r_tabOut C (tgt := 135) (by omega) (by decide) dX11_lane_18 ?_
    refine r_bipush C (by decide) dX11_lane_135 ?_
    exact r_iret C hw hf dX11_lane_137
  · have hf := ite_t c5 hf
    refine r_bipush C (by decide) dX11_lane_14 ?_
    exact r_iret C hw hf dX11_lane_16
theorem c_X11_lane (l : Launch) (D : Ds) (b : Nat) {x0 x1 x2 : Int} {μ μ' : Mem} {r : Int} (t0 : isK x0 11) (hf : f_X11_lane x0 x1 x2 μ = some (r, μ')) : Ctr l D b yX11_lane cX11_lane 3 (some .int) 4 [(2, x0), (0, x1), (0, x2)] μ (some (.int (jI r))) μ' := by
  refine Ctr.of (by decide +kernel) (Nat.le_of_ble_eq_true rfl) ?_
  intro p e s m below meth c C hw ls hl
  exact w_X11_lane_0 C hf t0 hw hl
set_option maxHeartbeats 4000000 in
set_option maxRecDepth 20000 in
theorem w_X11_why_0 (C : Cx p s m args meth c D b cX11_why 2 RX11 (some .int)) {r : Int} {μ' : Mem} {x0 x1 : Int} {μ : Mem} {H : Heap} {locs : List Loc} {ls : Array Slot} (hf : f_X11_why x0 x1 μ = some (r, μ')) (t0 : isK x0 11) (hw : Hw D b μ s.heap H locs) (hl : lvh b ls 2 [(0, 2, x0), (1, 0, x1)]) : W p l e (rm 4) s m args below meth c H locs 0 0 (QM below args s D b (some (.int (jI r))) μ') (F0 m 0 ls []) := by
  unfold f_X11_why at hf
  refine r_aload_n C hl (kx := 0) rfl rfl dX11_why_0 ?_
  refine gf_11_36 C hw t0 dX11_why_1 ?_
  refine r_iload_n C hl (kx := 1) rfl rfl dX11_why_4 ?_
  obtain ⟨r2, μ1, e3, hf⟩ := bn_some hf
  refine r_callVv C hw (K := [(0, x1)]) ok0 (ow_11_6 t0) (c_X0_whyNoGoing l D b (ow_11_6 t0) e3) mi_X0_whyNoGoing in_X0_whyNoGoing se_X0_whyNoGoing kl_11_147 rfl rfl (lvh_sz hl) (by decide) (Kr := []) rfl (Nat.le_of_ble_eq_true rfl) dX11_why_5 (fun H locs hw => ?_)
  exact r_iret C hw hf dX11_why_8
theorem c_X11_why (l : Launch) (D : Ds) (b : Nat) {x0 x1 : Int} {μ μ' : Mem} {r : Int} (t0 : isK x0 11) (hf : f_X11_why x0 x1 μ = some (r, μ')) : Ctr l D b yX11_why cX11_why 2 (some .int) 4 [(2, x0), (0, x1)] μ (some (.int (jI r))) μ' := by
  refine Ctr.of (by decide +kernel) (Nat.le_of_ble_eq_true rfl) ?_
  intro p e s m below meth c C hw ls hl
  exact w_X11_why_0 C hf t0 hw hl
set_option maxHeartbeats 4000000 in
set_option maxRecDepth 20000 in
theorem w_X11_worn_0 (C : Cx p s m args meth c D b cX11_worn 2 RX11 (some .int)) {r : Int} {μ' : Mem} {x0 x1 : Int} {μ : Mem} {H : Heap} {locs : List Loc} {ls : Array Slot} (hf : f_X11_worn x0 x1 μ = some (r, μ')) (t0 : isK x0 11) (hw : Hw D b μ s.heap H locs) (hl : lvh b ls 2 [(0, 2, x0), (1, 0, x1)]) : W p l e (rm 3) s m args below meth c H locs 0 0 (QM below args s D b (some (.int (jI r))) μ') (F0 m 0 ls []) := by
  unfold f_X11_worn at hf
  refine r_aload_n C hl (kx := 0) rfl rfl dX11_worn_0 ?_
  refine gf_11_36 C hw t0 dX11_worn_1 ?_
  refine gf_11_120 C hw (ow_11_6 t0) dX11_worn_4 ?_
  refine r_iload_n C hl (kx := 1) rfl rfl dX11_worn_7 ?_
  obtain ⟨g1, hf⟩ := gd_some hf
  obtain ⟨r3, μ2, e4, hf⟩ := bn_some hf
  refine r_callVv C hw (K := [(0, x1)]) ok3 g1 (c_X3_hasLane l D b g1 e4) mi_X3_hasLane in_X3_hasLane se_X3_hasLane kl_11_124 rfl rfl (lvh_sz hl) (by decide) (Kr := []) rfl (Nat.le_of_ble_eq_true rfl) dX11_worn_8 (fun H locs hw => ?_)
  refine r_if_ne C (tgt := 17) (by decide) dX11_worn_11 (fun c5 => ?_) (fun c5 => ?_)
  · have hf := ite_f c5 hf
    refine r_aload_n C hl (kx := 0) rfl rfl dX11_worn_17 ?_
    refine gf_11_36 C hw t0 dX11_worn_18 ?_
    refine gf_11_120 C hw (ow_11_6 t0) dX11_worn_21 ?_
    refine r_iload_n C hl (kx := 1) rfl rfl dX11_worn_24 ?_
    refine r_aload_n C hl (kx := 0) rfl rfl dX11_worn_25 ?_
    refine gf_11_36 C hw t0 dX11_worn_26 ?_
    refine gf_11_135 C hw (ow_11_6 t0) dX11_worn_29 ?_
    refine r_iload_n C hl (kx := 1) rfl rfl dX11_worn_32 ?_
    obtain ⟨g6, hf⟩ := gd_some hf
    refine r_iald C hw (n := 9) (ow_0_5 (ow_11_6 t0)) (j := (nrm x1)) rfl g6 (by decide) dX11_worn_33 ?_
    refine r_aload_n C hl (kx := 0) rfl rfl dX11_worn_34 ?_
    refine gf_11_36 C hw t0 dX11_worn_35 ?_
    refine gf_11_151 C hw (ow_11_6 t0) dX11_worn_38 ?_
    obtain ⟨g7, hf⟩ := gd_some hf
    obtain ⟨r9, μ8, e10, hf⟩ := bn_some hf
    refine r_callVv C hw (K := [(0, x1), (0, (μ2 ((x0 + 58) + 1) (nrm x1))), (0, (μ2 (x0 + 58) 2))]) ok3 g7 (c_X3_wornFrom l D b g7 e10) mi_X3_wornFrom in_X3_wornFrom se_X3_wornFrom kl_11_154 rfl rfl (lvh_sz hl) (by decide) (Kr := []) rfl (Nat.le_of_ble_eq_true rfl) dX11_worn_41 (fun H locs hw => ?_)
    exact r_iret C hw hf dX11_worn_44
  · have hf := ite_t c5 hf
    refine r_bipush C (by decide) dX11_worn_14 ?_
    exact r_iret C hw hf dX11_worn_16
theorem c_X11_worn (l : Launch) (D : Ds) (b : Nat) {x0 x1 : Int} {μ μ' : Mem} {r : Int} (t0 : isK x0 11) (hf : f_X11_worn x0 x1 μ = some (r, μ')) : Ctr l D b yX11_worn cX11_worn 2 (some .int) 3 [(2, x0), (0, x1)] μ (some (.int (jI r))) μ' := by
  refine Ctr.of (by decide +kernel) (Nat.le_of_ble_eq_true rfl) ?_
  intro p e s m below meth c C hw ls hl
  exact w_X11_worn_0 C hf t0 hw hl
set_option maxHeartbeats 4000000 in
set_option maxRecDepth 20000 in
theorem w_X11_fillings_0 (C : Cx p s m args meth c D b cX11_fillings 2 RX11 (some .int)) {r : Int} {μ' : Mem} {x0 x1 : Int} {μ : Mem} {H : Heap} {locs : List Loc} {ls : Array Slot} (hf : f_X11_fillings x0 x1 μ = some (r, μ')) (t0 : isK x0 11) (hw : Hw D b μ s.heap H locs) (hl : lvh b ls 2 [(0, 2, x0), (1, 0, x1)]) : W p l e (rm 4) s m args below meth c H locs 0 0 (QM below args s D b (some (.int (jI r))) μ') (F0 m 0 ls []) := by
  unfold f_X11_fillings at hf
  refine r_aload_n C hl (kx := 0) rfl rfl dX11_fillings_0 ?_
  refine gf_11_36 C hw t0 dX11_fillings_1 ?_
  refine gf_11_120 C hw (ow_11_6 t0) dX11_fillings_4 ?_
  refine r_iload_n C hl (kx := 1) rfl rfl dX11_fillings_7 ?_
  obtain ⟨g1, hf⟩ := gd_some hf
  obtain ⟨r3, μ2, e4, hf⟩ := bn_some hf
  refine r_callVv C hw (K := [(0, x1)]) ok3 g1 (c_X3_hasLane l D b g1 e4) mi_X3_hasLane in_X3_hasLane se_X3_hasLane kl_11_124 rfl rfl (lvh_sz hl) (by decide) (Kr := []) rfl (Nat.le_of_ble_eq_true rfl) dX11_fillings_8 (fun H locs hw => ?_)
  refine r_if_ne C (tgt := 17) (by decide) dX11_fillings_11 (fun c5 => ?_) (fun c5 => ?_)
  · have hf := ite_f c5 hf
    refine r_aload_n C hl (kx := 0) rfl rfl dX11_fillings_17 ?_
    refine gf_11_36 C hw t0 dX11_fillings_18 ?_
    refine r_iload_n C hl (kx := 1) rfl rfl dX11_fillings_21 ?_
    obtain ⟨r7, μ6, e8, hf⟩ := bn_some hf
    refine r_callVv C hw (K := [(0, x1)]) ok0 (ow_11_6 t0) (c_X0_fillingsOf l D b (ow_11_6 t0) e8) mi_X0_fillingsOf in_X0_fillingsOf se_X0_fillingsOf kl_11_158 rfl rfl (lvh_sz hl) (by decide) (Kr := []) rfl (Nat.le_of_ble_eq_true rfl) dX11_fillings_22 (fun H locs hw => ?_)
    exact r_iret C hw hf dX11_fillings_25
  · have hf := ite_t c5 hf
    refine r_bipush C (by decide) dX11_fillings_14 ?_
    exact r_iret C hw hf dX11_fillings_16
theorem c_X11_fillings (l : Launch) (D : Ds) (b : Nat) {x0 x1 : Int} {μ μ' : Mem} {r : Int} (t0 : isK x0 11) (hf : f_X11_fillings x0 x1 μ = some (r, μ')) : Ctr l D b yX11_fillings cX11_fillings 2 (some .int) 4 [(2, x0), (0, x1)] μ (some (.int (jI r))) μ' := by
  refine Ctr.of (by decide +kernel) (Nat.le_of_ble_eq_true rfl) ?_
  intro p e s m below meth c C hw ls hl
  exact w_X11_fillings_0 C hf t0 hw hl
set_option maxHeartbeats 4000000 in
set_option maxRecDepth 20000 in
theorem w_X11_doOne_0 (C : Cx p s m args meth c D b cX11_doOne 4 RX11 (some .int)) {r : Int} {μ' : Mem} {x0 x1 x2 : Int} {μ : Mem} {H : Heap} {locs : List Loc} {ls : Array Slot} (hf : f_X11_doOne x0 x1 x2 μ = some (r, μ')) (t0 : isK x0 11) (hw : Hw D b μ s.heap H locs) (hl : lvh b ls 4 [(0, 2, x0), (1, 0, x1), (2, 0, x2)]) : W p l e (rm 5) s m args below meth c H locs 0 0 (QM below args s D b (some (.int (jI r))) μ') (F0 m 0 ls []) := by
  unfold f_X11_doOne at hf
  refine r_iload_n C hl (kx := 2) rfl rfl dX11_doOne_0 ?_
  refine r_if_lt C (tgt := 10) (by decide) dX11_doOne_1 (fun c1 => ?_) (fun c1 => ?_)
  · have hf := ite_t c1 hf
    refine r_iconst C dX11_doOne_10 ?_
    exact r_iret C hw hf dX11_doOne_11
  · have hf := ite_f c1 hf
    refine r_iload_n C hl (kx := 2) rfl rfl dX11_doOne_4 ?_
    refine r_bipush C (by decide) dX11_doOne_5 ?_
    refine r_icmp_le C (tgt := 12) (by decide) dX11_doOne_7 (fun c2 => ?_) (fun c2 => ?_)
    · have hf := ite_t c2 hf
      refine r_aload_n C hl (kx := 0) rfl rfl dX11_doOne_12 ?_
      refine gf_11_40 C hw t0 dX11_doOne_13 ?_
      refine r_aload_n C hl (kx := 0) rfl rfl dX11_doOne_16 ?_
      refine gf_11_36 C hw t0 dX11_doOne_17 ?_
      obtain ⟨r4, μ3, e5, hf⟩ := bn_some hf
      refine r_callVn C hw (K := [(2, (x0 + 58))]) ok0 (ow_11_7 t0) (c_X0_takeOver l D b (ow_11_7 t0) e5) mi_X0_takeOver in_X0_takeOver se_X0_takeOver kl_11_189 rfl rfl (lvh_sz hl) (by decide) (Kr := []) rfl (Nat.le_of_ble_eq_true rfl) dX11_doOne_20 (fun H locs hw => ?_)
      refine r_aload_n C hl (kx := 0) rfl rfl dX11_doOne_23 ?_
      refine gf_11_36 C hw t0 dX11_doOne_24 ?_
      refine r_iload_n C hl (kx := 1) rfl rfl dX11_doOne_27 ?_
      refine r_iload_n C hl (kx := 2) rfl rfl dX11_doOne_28 ?_
      refine r_iadd C dX11_doOne_29 ?_
      refine r_i2l C dX11_doOne_30 ?_
      obtain ⟨r7, μ6, e8, hf⟩ := bn_some hf
      refine r_callVv C hw (K := [(1, (nrm (x1 + x2)))]) ok0 (ow_11_6 t0) (c_X0_tryDeed l D b (ow_11_6 t0) e8) mi_X0_tryDeed in_X0_tryDeed se_X0_tryDeed kl_11_180 rfl rfl (lvh_sz hl) (by decide) (Kr := []) rfl (Nat.le_of_ble_eq_true rfl) dX11_doOne_31 (fun H locs hw => ?_)
      refine r_istore_n C hl (by decide) (L' := [(3, 0, r7), (0, 2, x0), (1, 0, x1), (2, 0, x2)]) rfl rfl dX11_doOne_34 (fun ls hl => ?_)
      refine r_iload_n C hl (kx := 0) rfl rfl dX11_doOne_35 ?_
      refine r_if_ne C (tgt := 50) (by decide) dX11_doOne_36 (fun c9 => ?_) (fun c9 => ?_)
      · have hf := ite_f c9 hf
        refine r_iload_n C hl (kx := 0) rfl rfl dX11_doOne_50 ?_
        exact r_iret C hw hf dX11_doOne_51
      · have hf := ite_t c9 hf
        refine r_aload_n C hl (kx := 1) rfl rfl dX11_doOne_39 ?_
        refine gf_11_46 C hw t0 dX11_doOne_40 ?_
        refine r_aload_n C hl (kx := 1) rfl rfl dX11_doOne_43 ?_
        refine gf_11_40 C hw t0 dX11_doOne_44 ?_
        obtain ⟨r11, μ10, e12, hf⟩ := bn_some hf
        refine r_callVn C hw (K := [(2, (x0 + 60))]) ok2 (ow_11_8 t0) (c_X2_keep l D b (ow_11_8 t0) e12) mi_X2_keep in_X2_keep se_X2_keep kl_11_174 rfl rfl (lvh_sz hl) (by decide) (Kr := []) rfl (Nat.le_of_ble_eq_true rfl) dX11_doOne_47 (fun H locs hw => ?_)
        refine r_iload_n C hl (kx := 0) rfl rfl dX11_doOne_50 ?_
        exact r_iret C hw hf dX11_doOne_51
    · have hf := ite_f c2 hf
      refine r_iconst C dX11_doOne_10 ?_
      exact r_iret C hw hf dX11_doOne_11
theorem c_X11_doOne (l : Launch) (D : Ds) (b : Nat) {x0 x1 x2 : Int} {μ μ' : Mem} {r : Int} (t0 : isK x0 11) (hf : f_X11_doOne x0 x1 x2 μ = some (r, μ')) : Ctr l D b yX11_doOne cX11_doOne 4 (some .int) 5 [(2, x0), (0, x1), (0, x2)] μ (some (.int (jI r))) μ' := by
  refine Ctr.of (by decide +kernel) (Nat.le_of_ble_eq_true rfl) ?_
  intro p e s m below meth c C hw ls hl
  exact w_X11_doOne_0 C hf t0 hw hl
set_option maxHeartbeats 4000000 in
set_option maxRecDepth 20000 in
theorem w_X11_go_0 (C : Cx p s m args meth c D b cX11_go 3 RX11 (some .int)) {r : Int} {μ' : Mem} {x0 x1 : Int} {μ : Mem} {H : Heap} {locs : List Loc} {ls : Array Slot} (hf : f_X11_go x0 x1 μ = some (r, μ')) (t0 : isK x0 11) (hw : Hw D b μ s.heap H locs) (hl : lvh b ls 3 [(0, 2, x0), (1, 0, x1)]) : W p l e (rm 6) s m args below meth c H locs 0 0 (QM below args s D b (some (.int (jI r))) μ') (F0 m 0 ls []) := by
  unfold f_X11_go at hf
  refine r_aload_n C hl (kx := 0) rfl rfl dX11_go_0 ?_
  refine r_iconst C dX11_go_1 ?_
  refine r_iload_n C hl (kx := 1) rfl rfl dX11_go_2 ?_
  obtain ⟨r2, μ1, e3, hf⟩ := bn_some hf
  refine r_callVv C hw (K := [(0, 0), (0, x1)]) ok11 t0 (c_X11_doOne l D b t0 e3) mi_X11_doOne in_X11_doOne se_X11_doOne kl_11_161 rfl rfl (lvh_sz hl) (by decide) (Kr := []) rfl (Nat.le_of_ble_eq_true rfl) dX11_go_3 (fun H locs hw => ?_)
  refine r_istore_n C hl (by decide) (L' := [(2, 0, r2), (0, 2, x0), (1, 0, x1)]) rfl rfl dX11_go_6 (fun ls hl => ?_)
  refine r_iload_n C hl (kx := 0) rfl rfl dX11_go_7 ?_
  refine r_if_eq C (tgt := 18) (by decide) dX11_go_8 (fun c4 => ?_) (fun c4 => ?_)
  · have hf := ite_t c4 hf
    refine r_aload_n C hl (kx := 1) rfl rfl dX11_go_18 ?_
    refine gf_11_36 C hw t0 dX11_go_19 ?_
    refine gf_11_165 C hw (ow_11_6 t0) dX11_go_22 ?_
    exact r_iret C hw hf dX11_go_25
  · have hf := ite_f c4 hf
    refine r_bipush C (by decide) dX11_go_11 ?_
    refine r_iload_n C hl (kx := 0) rfl rfl dX11_go_13 ?_
    refine r_isub C dX11_go_14 ?_
    refine r_goto C (tgt := 25) (by decide) dX11_go_15 ?_
    exact r_iret C hw hf dX11_go_25
theorem c_X11_go (l : Launch) (D : Ds) (b : Nat) {x0 x1 : Int} {μ μ' : Mem} {r : Int} (t0 : isK x0 11) (hf : f_X11_go x0 x1 μ = some (r, μ')) : Ctr l D b yX11_go cX11_go 3 (some .int) 6 [(2, x0), (0, x1)] μ (some (.int (jI r))) μ' := by
  refine Ctr.of (by decide +kernel) (Nat.le_of_ble_eq_true rfl) ?_
  intro p e s m below meth c C hw ls hl
  exact w_X11_go_0 C hf t0 hw hl
set_option maxHeartbeats 4000000 in
set_option maxRecDepth 20000 in
theorem w_X11_fill_0 (C : Cx p s m args meth c D b cX11_fill 3 RX11 (some .int)) {r : Int} {μ' : Mem} {x0 x1 : Int} {μ : Mem} {H : Heap} {locs : List Loc} {ls : Array Slot} (hf : f_X11_fill x0 x1 μ = some (r, μ')) (t0 : isK x0 11) (hw : Hw D b μ s.heap H locs) (hl : lvh b ls 3 [(0, 2, x0), (1, 0, x1)]) : W p l e (rm 6) s m args below meth c H locs 0 0 (QM below args s D b (some (.int (jI r))) μ') (F0 m 0 ls []) := by
  unfold f_X11_fill at hf
  refine r_aload_n C hl (kx := 0) rfl rfl dX11_fill_0 ?_
  refine r_bipush C (by decide) dX11_fill_1 ?_
  refine r_iload_n C hl (kx := 1) rfl rfl dX11_fill_3 ?_
  obtain ⟨r2, μ1, e3, hf⟩ := bn_some hf
  refine r_callVv C hw (K := [(0, 10), (0, x1)]) ok11 t0 (c_X11_doOne l D b t0 e3) mi_X11_doOne in_X11_doOne se_X11_doOne kl_11_161 rfl rfl (lvh_sz hl) (by decide) (Kr := []) rfl (Nat.le_of_ble_eq_true rfl) dX11_fill_4 (fun H locs hw => ?_)
  refine r_istore_n C hl (by decide) (L' := [(2, 0, r2), (0, 2, x0), (1, 0, x1)]) rfl rfl dX11_fill_7 (fun ls hl => ?_)
  refine r_iload_n C hl (kx := 0) rfl rfl dX11_fill_8 ?_
  refine r_if_eq C (tgt := 19) (by decide) dX11_fill_9 (fun c4 => ?_) (fun c4 => ?_)
  · have hf := ite_t c4 hf
    refine r_aload_n C hl (kx := 1) rfl rfl dX11_fill_19 ?_
    refine gf_11_36 C hw t0 dX11_fill_20 ?_
    refine r_iload_n C hl (kx := 2) rfl rfl dX11_fill_23 ?_
    obtain ⟨r6, μ5, e7, hf⟩ := bn_some hf
    refine r_callVv C hw (K := [(0, x1)]) ok0 (ow_11_6 t0) (c_X0_depthOf l D b (ow_11_6 t0) e7) mi_X0_depthOf in_X0_depthOf se_X0_depthOf kl_11_168 rfl rfl (lvh_sz hl) (by decide) (Kr := []) rfl (Nat.le_of_ble_eq_true rfl) dX11_fill_24 (fun H locs hw => ?_)
    exact r_iret C hw hf dX11_fill_27
  · have hf := ite_f c4 hf
    refine r_bipush C (by decide) dX11_fill_12 ?_
    refine r_iload_n C hl (kx := 0) rfl rfl dX11_fill_14 ?_
    refine r_isub C dX11_fill_15 ?_
    refine r_goto C (tgt := 27) (by decide) dX11_fill_16 ?_
    exact r_iret C hw hf dX11_fill_27
theorem c_X11_fill (l : Launch) (D : Ds) (b : Nat) {x0 x1 : Int} {μ μ' : Mem} {r : Int} (t0 : isK x0 11) (hf : f_X11_fill x0 x1 μ = some (r, μ')) : Ctr l D b yX11_fill cX11_fill 3 (some .int) 6 [(2, x0), (0, x1)] μ (some (.int (jI r))) μ' := by
  refine Ctr.of (by decide +kernel) (Nat.le_of_ble_eq_true rfl) ?_
  intro p e s m below meth c C hw ls hl
  exact w_X11_fill_0 C hf t0 hw hl
set_option maxHeartbeats 4000000 in
set_option maxRecDepth 20000 in
theorem w_X11_dig_0 (C : Cx p s m args meth c D b cX11_dig 3 RX11 (some .int)) {r : Int} {μ' : Mem} {x0 x1 : Int} {μ : Mem} {H : Heap} {locs : List Loc} {ls : Array Slot} (hf : f_X11_dig x0 x1 μ = some (r, μ')) (t0 : isK x0 11) (hw : Hw D b μ s.heap H locs) (hl : lvh b ls 3 [(0, 2, x0), (1, 0, x1)]) : W p l e (rm 6) s m args below meth c H locs 0 0 (QM below args s D b (some (.int (jI r))) μ') (F0 m 0 ls []) := by
  unfold f_X11_dig at hf
  refine r_aload_n C hl (kx := 0) rfl rfl dX11_dig_0 ?_
  refine r_bipush C (by decide) dX11_dig_1 ?_
  refine r_iload_n C hl (kx := 1) rfl rfl dX11_dig_3 ?_
  obtain ⟨r2, μ1, e3, hf⟩ := bn_some hf
  refine r_callVv C hw (K := [(0, 20), (0, x1)]) ok11 t0 (c_X11_doOne l D b t0 e3) mi_X11_doOne in_X11_doOne se_X11_doOne kl_11_161 rfl rfl (lvh_sz hl) (by decide) (Kr := []) rfl (Nat.le_of_ble_eq_true rfl) dX11_dig_4 (fun H locs hw => ?_)
  refine r_istore_n C hl (by decide) (L' := [(2, 0, r2), (0, 2, x0), (1, 0, x1)]) rfl rfl dX11_dig_7 (fun ls hl => ?_)
  refine r_iload_n C hl (kx := 0) rfl rfl dX11_dig_8 ?_
  refine r_if_eq C (tgt := 19) (by decide) dX11_dig_9 (fun c4 => ?_) (fun c4 => ?_)
  · have hf := ite_t c4 hf
    refine r_aload_n C hl (kx := 1) rfl rfl dX11_dig_19 ?_
    refine gf_11_36 C hw t0 dX11_dig_20 ?_
    refine r_iload_n C hl (kx := 2) rfl rfl dX11_dig_23 ?_
    obtain ⟨r6, μ5, e7, hf⟩ := bn_some hf
    refine r_callVv C hw (K := [(0, x1)]) ok0 (ow_11_6 t0) (c_X0_depthOf l D b (ow_11_6 t0) e7) mi_X0_depthOf in_X0_depthOf se_X0_depthOf kl_11_168 rfl rfl (lvh_sz hl) (by decide) (Kr := []) rfl (Nat.le_of_ble_eq_true rfl) dX11_dig_24 (fun H locs hw => ?_)
    exact r_iret C hw hf dX11_dig_27
  · have hf := ite_f c4 hf
    refine r_bipush C (by decide) dX11_dig_12 ?_
    refine r_iload_n C hl (kx := 0) rfl rfl dX11_dig_14 ?_
    refine r_isub C dX11_dig_15 ?_
    refine r_goto C (tgt := 27) (by decide) dX11_dig_16 ?_
    exact r_iret C hw hf dX11_dig_27
theorem c_X11_dig (l : Launch) (D : Ds) (b : Nat) {x0 x1 : Int} {μ μ' : Mem} {r : Int} (t0 : isK x0 11) (hf : f_X11_dig x0 x1 μ = some (r, μ')) : Ctr l D b yX11_dig cX11_dig 3 (some .int) 6 [(2, x0), (0, x1)] μ (some (.int (jI r))) μ' := by
  refine Ctr.of (by decide +kernel) (Nat.le_of_ble_eq_true rfl) ?_
  intro p e s m below meth c C hw ls hl
  exact w_X11_dig_0 C hf t0 hw hl
set_option maxHeartbeats 4000000 in
set_option maxRecDepth 20000 in
theorem w_X11_turn_0 (C : Cx p s m args meth c D b cX11_turn 3 RX11 (some .int)) {r : Int} {μ' : Mem} {x0 x1 : Int} {μ : Mem} {H : Heap} {locs : List Loc} {ls : Array Slot} (hf : f_X11_turn x0 x1 μ = some (r, μ')) (t0 : isK x0 11) (hw : Hw D b μ s.heap H locs) (hl : lvh b ls 3 [(0, 2, x0), (1, 0, x1)]) : W p l e (rm 6) s m args below meth c H locs 0 0 (QM below args s D b (some (.int (jI r))) μ') (F0 m 0 ls []) := by
  unfold f_X11_turn at hf
  refine r_aload_n C hl (kx := 0) rfl rfl dX11_turn_0 ?_
  refine r_bipush C (by decide) dX11_turn_1 ?_
  refine r_iload_n C hl (kx := 1) rfl rfl dX11_turn_3 ?_
  obtain ⟨r2, μ1, e3, hf⟩ := bn_some hf
  refine r_callVv C hw (K := [(0, 40), (0, x1)]) ok11 t0 (c_X11_doOne l D b t0 e3) mi_X11_doOne in_X11_doOne se_X11_doOne kl_11_161 rfl rfl (lvh_sz hl) (by decide) (Kr := []) rfl (Nat.le_of_ble_eq_true rfl) dX11_turn_4 (fun H locs hw => ?_)
  refine r_istore_n C hl (by decide) (L' := [(2, 0, r2), (0, 2, x0), (1, 0, x1)]) rfl rfl dX11_turn_7 (fun ls hl => ?_)
  refine r_iload_n C hl (kx := 0) rfl rfl dX11_turn_8 ?_
  refine r_if_eq C (tgt := 19) (by decide) dX11_turn_9 (fun c4 => ?_) (fun c4 => ?_)
  · have hf := ite_t c4 hf
    refine r_aload_n C hl (kx := 1) rfl rfl dX11_turn_19 ?_
    refine gf_11_36 C hw t0 dX11_turn_20 ?_
    refine gf_11_171 C hw (ow_11_6 t0) dX11_turn_23 ?_
    refine r_iload_n C hl (kx := 2) rfl rfl dX11_turn_26 ?_
    refine r_ishr C dX11_turn_27 ?_
    refine r_iconst C dX11_turn_28 ?_
    refine r_iand C dX11_turn_29 ?_
    exact r_iret C hw hf dX11_turn_30
  · have hf := ite_f c4 hf
    refine r_bipush C (by decide) dX11_turn_12 ?_
    refine r_iload_n C hl (kx := 0) rfl rfl dX11_turn_14 ?_
    refine r_isub C dX11_turn_15 ?_
    refine r_goto C (tgt := 30) (by decide) dX11_turn_16 ?_
    exact r_iret C hw hf dX11_turn_30
theorem c_X11_turn (l : Launch) (D : Ds) (b : Nat) {x0 x1 : Int} {μ μ' : Mem} {r : Int} (t0 : isK x0 11) (hf : f_X11_turn x0 x1 μ = some (r, μ')) : Ctr l D b yX11_turn cX11_turn 3 (some .int) 6 [(2, x0), (0, x1)] μ (some (.int (jI r))) μ' := by
  refine Ctr.of (by decide +kernel) (Nat.le_of_ble_eq_true rfl) ?_
  intro p e s m below meth c C hw ls hl
  exact w_X11_turn_0 C hf t0 hw hl
set_option maxHeartbeats 4000000 in
set_option maxRecDepth 20000 in
theorem w_X11_seasons_27 (C : Cx p s m args meth c D b cX11_seasons 3 RX11 (some .int)) {r : Int} {μ' : Mem} : ∀ (n : Nat) (x0 x1 x2 : Int) (μ : Mem) (H : Heap) (locs : List Loc) (ls : Array Slot), f_X11_seasons_w27 n x0 x1 x2 μ = some (r, μ') → isK x0 11 → Hw D b μ s.heap H locs → lvh b ls 3 [(0, 2, x0), (1, 0, x1), (2, 0, x2)] → W p l e (rm 5) s m args below meth c H locs 0 0 (QM below args s D b (some (.int (jI r))) μ') (F0 m 27 ls []) := by
  intro n
  induction n with
  | zero => intro x0 x1 x2 μ H locs ls hf; cases hf
  | succ n ih =>
    intro x0 x1 x2 μ H locs ls hf t0 hw hl
    rw [f_X11_seasons_w27.eq_2] at hf
    refine r_iload_n C hl (kx := 2) rfl rfl dX11_seasons_27 ?_
    refine r_iload_n C hl (kx := 1) rfl rfl dX11_seasons_28 ?_
    refine r_icmp_ge C (tgt := 49) (by decide) dX11_seasons_29 (fun c1 => ?_) (fun c1 => ?_)
    · have hf := ite_t c1 hf
      refine r_aload_n C hl (kx := 0) rfl rfl dX11_seasons_49 ?_
      refine gf_11_36 C hw t0 dX11_seasons_50 ?_
      refine gf_11_171 C hw (ow_11_6 t0) dX11_seasons_53 ?_
      obtain ⟨r3, μ2, e4, hf⟩ := bn_some hf
      refine r_callSv C hw (K := [(0, (μ (x0 + 58) 3))]) (c_J6_bitCount_0f7a4 l D b e4) mi_J6_bitCount_0f7a4 st_J6_bitCount_0f7a4 kl_11_184 rfl rfl (lvh_sz hl) (by decide) (Kr := []) rfl (Nat.le_of_ble_eq_true rfl) dX11_seasons_56 (fun H locs hw => ?_)
      exact r_iret C hw hf dX11_seasons_59
    · have hf := ite_f c1 hf
      refine r_aload_n C hl (kx := 0) rfl rfl dX11_seasons_32 ?_
      refine gf_11_36 C hw t0 dX11_seasons_33 ?_
      refine r_ldc2 C (z := 50) (by decide) kw987 dX11_seasons_36 ?_
      obtain ⟨r6, μ5, e7, hf⟩ := bn_some hf
      refine r_callVv C hw (K := [(1, 50)]) ok0 (ow_11_6 t0) (c_X0_tryDeed l D b (ow_11_6 t0) e7) mi_X0_tryDeed in_X0_tryDeed se_X0_tryDeed kl_11_180 rfl rfl (lvh_sz hl) (by decide) (Kr := []) rfl (Nat.le_of_ble_eq_true rfl) dX11_seasons_39 (fun H locs hw => ?_)
      refine r_pop C rfl dX11_seasons_42 ?_
      refine r_iinc C hl (kx := 2) rfl (by decide) (L' := [(2, 0, (x2 + 1)), (0, 2, x0), (1, 0, x1)]) rfl dX11_seasons_43 (fun ls hl => ?_)
      refine r_goto C (tgt := 27) (by decide) dX11_seasons_46 ?_
      exact ih _ _ _ _ _ _ _ hf t0 hw (lvh_sub hl [1, 2, 0] rfl)
set_option maxHeartbeats 4000000 in
set_option maxRecDepth 20000 in
theorem w_X11_seasons_0 (C : Cx p s m args meth c D b cX11_seasons 3 RX11 (some .int)) {r : Int} {μ' : Mem} {x0 x1 : Int} {μ : Mem} {H : Heap} {locs : List Loc} {ls : Array Slot} (hf : f_X11_seasons x0 x1 μ = some (r, μ')) (t0 : isK x0 11) (hw : Hw D b μ s.heap H locs) (hl : lvh b ls 3 [(0, 2, x0), (1, 0, x1)]) : W p l e (rm 5) s m args below meth c H locs 0 0 (QM below args s D b (some (.int (jI r))) μ') (F0 m 0 ls []) := by
  unfold f_X11_seasons at hf
  refine r_iload_n C hl (kx := 1) rfl rfl dX11_seasons_0 ?_
  refine r_iconst C dX11_seasons_1 ?_
  refine r_icmp_lt C (tgt := 11) (by decide) dX11_seasons_2 (fun c1 => ?_) (fun c1 => ?_)
  · have hf := ite_t c1 hf
    refine r_bipush C (by decide) dX11_seasons_11 ?_
    exact r_iret C hw hf dX11_seasons_13
  · have hf := ite_f c1 hf
    refine r_iload_n C hl (kx := 1) rfl rfl dX11_seasons_5 ?_
    refine r_bipush C (by decide) dX11_seasons_6 ?_
    refine r_icmp_le C (tgt := 14) (by decide) dX11_seasons_8 (fun c2 => ?_) (fun c2 => ?_)
    · have hf := ite_t c2 hf
      refine r_aload_n C hl (kx := 0) rfl rfl dX11_seasons_14 ?_
      refine gf_11_46 C hw t0 dX11_seasons_15 ?_
      refine r_aload_n C hl (kx := 0) rfl rfl dX11_seasons_18 ?_
      refine gf_11_36 C hw t0 dX11_seasons_19 ?_
      obtain ⟨r4, μ3, e5, hf⟩ := bn_some hf
      refine r_callVn C hw (K := [(2, (x0 + 58))]) ok2 (ow_11_8 t0) (c_X2_keep l D b (ow_11_8 t0) e5) mi_X2_keep in_X2_keep se_X2_keep kl_11_174 rfl rfl (lvh_sz hl) (by decide) (Kr := []) rfl (Nat.le_of_ble_eq_true rfl) dX11_seasons_22 (fun H locs hw => ?_)
      refine r_iconst C dX11_seasons_25 ?_
      refine r_istore_n C hl (by decide) (L' := [(2, 0, 0), (0, 2, x0), (1, 0, x1)]) rfl rfl dX11_seasons_26 (fun ls hl => ?_)
      exact w_X11_seasons_27 C FU _ _ _ _ _ _ _ hf t0 hw (lvh_sub hl [1, 2, 0] rfl)
    · have hf := ite_f c2 hf
      refine r_bipush C (by decide) dX11_seasons_11 ?_
      exact r_iret C hw hf dX11_seasons_13
theorem c_X11_seasons (l : Launch) (D : Ds) (b : Nat) {x0 x1 : Int} {μ μ' : Mem} {r : Int} (t0 : isK x0 11) (hf : f_X11_seasons x0 x1 μ = some (r, μ')) : Ctr l D b yX11_seasons cX11_seasons 3 (some .int) 5 [(2, x0), (0, x1)] μ (some (.int (jI r))) μ' := by
  refine Ctr.of (by decide +kernel) (Nat.le_of_ble_eq_true rfl) ?_
  intro p e s m below meth c C hw ls hl
  exact w_X11_seasons_0 C hf t0 hw hl
end WALK
