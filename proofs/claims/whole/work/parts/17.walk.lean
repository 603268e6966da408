section WALK
variable {p : Program} {l : Launch} {e : Env} {s : State} {m : MethodId} {args : Array Value} {below : List Frame} {meth : Method} {c : Code} {H : Heap} {locs : List Loc} {D : Ds} {b : Nat} {n0 : Nat}
set_option maxHeartbeats 4000000 in
set_option maxRecDepth 20000 in
theorem w_X12_whyGo_0 (C : Cx p s m args meth c D b cX12_whyGo 3 RX12 (some .int)) {r : Int} {μ' : Mem} {x0 x1 : Int} {μ : Mem} {H : Heap} {locs : List Loc} {ls : Array Slot} (hf : f_X12_whyGo x0 x1 μ = some (r, μ')) (t0 : isK x0 12) (hw : Hw D b μ s.heap H locs) (hl : lvh b ls 3 [(0, 2, x0), (1, 1, x1)]) : W p l e (rm 4) s m args below meth c H locs 0 0 (QM below args s D b (some (.int (jI r))) μ') (F0 m 0 ls []) := by
  unfold f_X12_whyGo at hf
  refine r_aload_n C hl (kx := 0) rfl rfl dX12_whyGo_0 ?_
  refine r_lload_n C hl (kx := 1) rfl rfl dX12_whyGo_1 ?_
  obtain ⟨r2, μ1, e3, hf⟩ := bn_some hf
  refine r_callVv C hw (K := [(1, x1)]) ok12 t0 (c_X12_isLane l D b t0 e3) mi_X12_isLane in_X12_isLane se_X12_isLane kl_12_226 rfl rfl (lvh_sz hl) (by decide) (Kr := []) rfl (Nat.le_of_ble_eq_true rfl) dX12_whyGo_2 (fun H locs hw => ?_)
  refine r_if_ne C (tgt := 10) (by decide) dX12_whyGo_5 (fun c4 => ?_) (fun c4 => ?_)
  · have hf := ite_f c4 hf
    refine r_aload_n C hl (kx := 0) rfl rfl dX12_whyGo_10 ?_
    refine r_lload_n C hl (kx := 1) rfl rfl dX12_whyGo_11 ?_
    refine r_l2i C dX12_whyGo_12 ?_
    refine r_aload_n C hl (kx := 0) rfl rfl dX12_whyGo_13 ?_
    refine gf_12_13 C hw t0 dX12_whyGo_14 ?_
    refine r_bipush C (by decide) dX12_whyGo_17 ?_
    refine r_iald C hw (n := 3300) (ow_12_1 t0) (j := 55) (by decide) (by decide) (by decide) dX12_whyGo_19 ?_
    obtain ⟨r6, μ5, e7, hf⟩ := bn_some hf
    refine r_callVv C hw (K := [(0, x1), (0, (μ1 (x0 + 1) 55))]) ok12 t0 (c_X12_otherEnd l D b t0 e7) mi_X12_otherEnd in_X12_otherEnd se_X12_otherEnd kl_12_230 rfl rfl (lvh_sz hl) (by decide) (Kr := []) rfl (Nat.le_of_ble_eq_true rfl) dX12_whyGo_20 (fun H locs hw => ?_)
    refine r_iconst C dX12_whyGo_23 ?_
    refine r_icmp_ne C (tgt := 31) (by decide) dX12_whyGo_24 (fun c8 => ?_) (fun c8 => ?_)
    · have hf := ite_f c8 hf
      refine r_aload_n C hl (kx := 0) rfl rfl dX12_whyGo_31 ?_
      refine r_lload_n C hl (kx := 1) rfl rfl dX12_whyGo_32 ?_
      refine r_l2i C dX12_whyGo_33 ?_
      obtain ⟨r10, μ9, e11, hf⟩ := bn_some hf
      refine r_callVv C hw (K := [(0, x1)]) ok12 t0 (c_X12_isOpen l D b t0 e11) mi_X12_isOpen in_X12_isOpen se_X12_isOpen kl_12_233 rfl rfl (lvh_sz hl) (by decide) (Kr := []) rfl (Nat.le_of_ble_eq_true rfl) dX12_whyGo_34 (fun H locs hw => ?_)
      refine r_if_eq C (tgt := 44) (by decide) dX12_whyGo_37 (fun c12 => ?_) (fun c12 => ?_)
      · have hf := ite_t c12 hf
        refine r_iconst C dX12_whyGo_44 ?_
        exact r_iret C hw hf dX12_whyGo_45
      · have hf := ite_f c12 hf
        refine r_iconst C dX12_whyGo_40 ?_
        refine r_goto C (tgt := 45) (by decide) dX12_whyGo_41 ?_
        exact r_iret C hw hf dX12_whyGo_45
    · have hf := ite_t c8 hf
      refine r_iconst C dX12_whyGo_27 ?_
      refine r_goto C (tgt := 45) (by decide) dX12_whyGo_28 ?_
      exact r_iret C hw hf dX12_whyGo_45
  · have hf := ite_t c4 hf
    refine r_iconst C dX12_whyGo_8 ?_
    exact r_iret C hw hf dX12_whyGo_9
theorem c_X12_whyGo (l : Launch) (D : Ds) (b : Nat) {x0 x1 : Int} {μ μ' : Mem} {r : Int} (t0 : isK x0 12) (hf : f_X12_whyGo x0 x1 μ = some (r, μ')) : Ctr l D b yX12_whyGo cX12_whyGo 3 (some .int) 4 [(2, x0), (1, x1)] μ (some (.int (jI r))) μ' := by
  refine Ctr.of (by decide +kernel) (Nat.le_of_ble_eq_true rfl) ?_
  intro p e s m below meth c C hw ls hl
  exact w_X12_whyGo_0 C hf t0 hw hl
set_option maxHeartbeats 4000000 in
set_option maxRecDepth 20000 in
theorem w_X12_lane_0 (C : Cx p s m args meth c D b cX12_lane 3 RX12 (some .int)) {r : Int} {μ' : Mem} {x0 x1 x2 : Int} {μ : Mem} {H : Heap} {locs : List Loc} {ls : Array Slot} (hf : f_X12_lane x0 x1 x2 μ = some (r, μ')) (t0 : isK x0 12) (hw : Hw D b μ s.heap H locs) (hl : lvh b ls 3 [(0, 2, x0), (1, 0, x1), (2, 0, x2)]) : W p l e (rm 4) s m args below meth c H locs 0 0 (QM below args s D b (some (.int (jI r))) μ') (F0 m 0 ls []) := by
  unfold f_X12_lane at hf
  refine r_aload_n C hl (kx := 0) rfl rfl dX12_lane_0 ?_
  refine r_iconst C dX12_lane_1 ?_
  obtain ⟨μ1, e2, hf⟩ := nm_some hf
  refine pf_12_1 C hw t0 dX12_lane_2 (fun H locs hw => ?_)
  rw [← e2] at hw
  refine r_aload_n C hl (kx := 0) rfl rfl dX12_lane_5 ?_
  refine r_iload_n C hl (kx := 1) rfl rfl dX12_lane_6 ?_
  refine r_i2l C dX12_lane_7 ?_
  obtain ⟨r4, μ3, e5, hf⟩ := bn_some hf
  refine r_callVv C hw (K := [(1, (nrm x1))]) ok12 t0 (c_X12_isLane l D b t0 e5) mi_X12_isLane in_X12_isLane se_X12_isLane kl_12_226 rfl rfl (lvh_sz hl) (by decide) (Kr := []) rfl (Nat.le_of_ble_eq_true rfl) dX12_lane_8 (fun H locs hw => ?_)
  refine r_if_ne C (tgt := 17) (by decide) dX12_lane_11 (fun c6 => ?_) (fun c6 => ?_)
  · have hf := ite_f c6 hf
    refine r_iload_n C hl (kx := 2) rfl rfl dX12_lane_17 ?_
    rcases Decidable.em (nrm x2 = 0) with c7 | c7
    · have hf := ite_t c7 hf
      refine r_tabIn C (tgt := 56) c7 (by decide) (by decide) rfl (by decide) dX12_lane_18 ?_
      refine r_aload_n C hl (kx := 0) rfl rfl dX12_lane_56 ?_
      refine gf_12_13 C hw t0 dX12_lane_57 ?_
      refine r_bipush C (by decide) dX12_lane_60 ?_
      refine r_iload_n C hl (kx := 1) rfl rfl dX12_lane_62 ?_
      refine r_iadd C dX12_lane_63 ?_
      obtain ⟨g8, hf⟩ := gd_some hf
      refine r_iald C hw (n := 3300) (ow_12_1 t0) (j := (nrm (11 + x1))) rfl g8 (by decide) dX12_lane_64 ?_
      exact r_iret C hw hf dX12_lane_65
    have hf := ite_f c7 hf
    rcases Decidable.em (nrm x2 = 1) with c9 | c9
    · have hf := ite_t c9 hf
      refine r_tabIn C (tgt := 66) c9 (by decide) (by decide) rfl (by decide) dX12_lane_18 ?_
      refine r_aload_n C hl (kx := 0) rfl rfl dX12_lane_66 ?_
      refine gf_12_13 C hw t0 dX12_lane_67 ?_
      refine r_bipush C (by decide) dX12_lane_70 ?_
      refine r_iload_n C hl (kx := 1) rfl rfl dX12_lane_72 ?_
      refine r_iadd C dX12_lane_73 ?_
      obtain ⟨g10, hf⟩ := gd_some hf
      refine r_iald C hw (n := 3300) (ow_12_1 t0) (j := (nrm (20 + x1))) rfl g10 (by decide) dX12_lane_74 ?_
      exact r_iret C hw hf dX12_lane_75
    have hf := ite_f c9 hf
    rcases Decidable.em (nrm x2 = 2) with c11 | c11
    · have hf := ite_t c11 hf
      refine r_tabIn C (tgt := 76) c11 (by decide) (by decide) rfl (by decide) dX12_lane_18 ?_
      refine r_aload_n C hl (kx := 0) rfl rfl dX12_lane_76 ?_
      refine gf_12_13 C hw t0 dX12_lane_77 ?_
      refine r_bipush C (by decide) dX12_lane_80 ?_
      refine r_iload_n C hl (kx := 1) rfl rfl dX12_lane_82 ?_
      refine r_iadd C dX12_lane_83 ?_
      obtain ⟨g12, hf⟩ := gd_some hf
      refine r_iald C hw (n := 3300) (ow_12_1 t0) (j := (nrm (56 + x1))) rfl g12 (by decide) dX12_lane_84 ?_
      exact r_iret C hw hf dX12_lane_85
    have hf := ite_f c11 hf
    rcases Decidable.em (nrm x2 = 3) with c13 | c13
    · have hf := ite_t c13 hf
      refine r_tabIn C (tgt := 86) c13 (by decide) (by decide) rfl (by decide) dX12_lane_18 ?_
      refine r_aload_n C hl (kx := 0) rfl rfl dX12_lane_86 ?_
      refine gf_12_13 C hw t0 dX12_lane_87 ?_
      refine r_bipush C (by decide) dX12_lane_90 ?_
      refine r_iload_n C hl (kx := 1) rfl rfl dX12_lane_92 ?_
      refine r_iadd C dX12_lane_93 ?_
      obtain ⟨g14, hf⟩ := gd_some hf
      refine r_iald C hw (n := 3300) (ow_12_1 t0) (j := (nrm (29 + x1))) rfl g14 (by decide) dX12_lane_94 ?_
      exact r_iret C hw hf dX12_lane_95
    have hf := ite_f c13 hf
    rcases Decidable.em (nrm x2 = 4) with c15 | c15
    · have hf := ite_t c15 hf
      refine r_tabIn C (tgt := 96) c15 (by decide) (by decide) rfl (by decide) dX12_lane_18 ?_
      refine r_aload_n C hl (kx := 0) rfl rfl dX12_lane_96 ?_
      refine gf_12_13 C hw t0 dX12_lane_97 ?_
      refine r_bipush C (by decide) dX12_lane_100 ?_
      refine r_iload_n C hl (kx := 1) rfl rfl dX12_lane_102 ?_
      refine r_iadd C dX12_lane_103 ?_
      obtain ⟨g16, hf⟩ := gd_some hf
      refine r_iald C hw (n := 3300) (ow_12_1 t0) (j := (nrm (38 + x1))) rfl g16 (by decide) dX12_lane_104 ?_
      exact r_iret C hw hf dX12_lane_105
    have hf := ite_f c15 hf
    rcases Decidable.em (nrm x2 = 5) with c17 | c17
    · have hf := ite_t c17 hf
      refine r_tabIn C (tgt := 106) c17 (by decide) (by decide) rfl (by decide) dX12_lane_18 ?_
      refine r_aload_n C hl (kx := 0) rfl rfl dX12_lane_106 ?_
      refine r_iload_n C hl (kx := 1) rfl rfl dX12_lane_107 ?_
      obtain ⟨r19, μ18, e20, hf⟩ := bn_some hf
      refine r_callVv C hw (K := [(0, x1)]) ok12 t0 (c_X12_isOpen l D b t0 e20) mi_X12_isOpen in_X12_isOpen se_X12_isOpen kl_12_233 rfl rfl (lvh_sz hl) (by decide) (Kr := []) rfl (Nat.le_of_ble_eq_true rfl) dX12_lane_108 (fun H locs hw => ?_)
      refine r_if_eq C (tgt := 118) (by decide) dX12_lane_111 (fun c21 => ?_) (fun c21 => ?_)
      · have hf := ite_t c21 hf
        refine r_iconst C dX12_lane_118 ?_
        exact r_iret C hw hf dX12_lane_119
      · have hf := ite_f c21 hf
        refine r_iconst C dX12_lane_114 ?_
        refine r_goto C (tgt := 119) (by decide) dX12_lane_115 ?_
        exact r_iret C hw hf dX12_lane_119
    have hf := ite_f c17 hf
    refine r_tabOut C (tgt := 120) (by omega) (by decide) dX12_lane_18 ?_
    refine r_bipush C (by decide) dX12_lane_120 ?_
    exact r_iret C hw hf dX12_lane_122
  · have hf := ite_t c6 hf
    refine r_bipush C (by decide) dX12_lane_14 ?_
    exact r_iret C hw hf dX12_lane_16
theorem c_X12_lane (l : Launch) (D : Ds) (b : Nat) {x0 x1 x2 : Int} {μ μ' : Mem} {r : Int} (t0 : isK x0 12) (hf : f_X12_lane x0 x1 x2 μ = some (r, μ')) : Ctr l D b yX12_lane cX12_lane 3 (some .int) 4 [(2, x0), (0, x1), (0, x2)] μ (some (.int (jI r))) μ' := by
  refine Ctr.of (by decide +kernel) (Nat.le_of_ble_eq_true rfl) ?_
  intro p e s m below meth c C hw ls hl
  exact w_X12_lane_0 C hf t0 hw hl
set_option maxHeartbeats 4000000 in
set_option maxRecDepth 20000 in
theorem w_X12_why_0 (C : Cx p s m args meth c D b cX12_why 2 RX12 (some .int)) {r : Int} {μ' : Mem} {x0 x1 : Int} {μ : Mem} {H : Heap} {locs : List Loc} {ls : Array Slot} (hf : f_X12_why x0 x1 μ = some (r, μ')) (t0 : isK x0 12) (hw : Hw D b μ s.heap H locs) (hl : lvh b ls 2 [(0, 2, x0), (1, 0, x1)]) : W p l e (rm 5) s m args below meth c H locs 0 0 (QM below args s D b (some (.int (jI r))) μ') (F0 m 0 ls []) := by
  unfold f_X12_why at hf
  refine r_aload_n C hl (kx := 0) rfl rfl dX12_why_0 ?_
  refine r_iconst C dX12_why_1 ?_
  obtain ⟨μ1, e2, hf⟩ := nm_some hf
  refine pf_12_1 C hw t0 dX12_why_2 (fun H locs hw => ?_)
  rw [← e2] at hw
  refine r_aload_n C hl (kx := 0) rfl rfl dX12_why_5 ?_
  refine r_iload_n C hl (kx := 1) rfl rfl dX12_why_6 ?_
  refine r_i2l C dX12_why_7 ?_
  obtain ⟨r4, μ3, e5, hf⟩ := bn_some hf
  refine r_callVv C hw (K := [(1, (nrm x1))]) ok12 t0 (c_X12_whyGo l D b t0 e5) mi_X12_whyGo in_X12_whyGo se_X12_whyGo kl_12_236 rfl rfl (lvh_sz hl) (by decide) (Kr := []) rfl (Nat.le_of_ble_eq_true rfl) dX12_why_8 (fun H locs hw => ?_)
  exact r_iret C hw hf dX12_why_11
theorem c_X12_why (l : Launch) (D : Ds) (b : Nat) {x0 x1 : Int} {μ μ' : Mem} {r : Int} (t0 : isK x0 12) (hf : f_X12_why x0 x1 μ = some (r, μ')) : Ctr l D b yX12_why cX12_why 2 (some .int) 5 [(2, x0), (0, x1)] μ (some (.int (jI r))) μ' := by
  refine Ctr.of (by decide +kernel) (Nat.le_of_ble_eq_true rfl) ?_
  intro p e s m below meth c C hw ls hl
  exact w_X12_why_0 C hf t0 hw hl
set_option maxHeartbeats 4000000 in
set_option maxRecDepth 20000 in
theorem w_X12_worn_0 (C : Cx p s m args meth c D b cX12_worn 2 RX12 (some .int)) {r : Int} {μ' : Mem} {x0 x1 : Int} {μ : Mem} {H : Heap} {locs : List Loc} {ls : Array Slot} (hf : f_X12_worn x0 x1 μ = some (r, μ')) (t0 : isK x0 12) (hw : Hw D b μ s.heap H locs) (hl : lvh b ls 2 [(0, 2, x0), (1, 0, x1)]) : W p l e (rm 3) s m args below meth c H locs 0 0 (QM below args s D b (some (.int (jI r))) μ') (F0 m 0 ls []) := by
  unfold f_X12_worn at hf
  refine r_aload_n C hl (kx := 0) rfl rfl dX12_worn_0 ?_
  refine r_iconst C dX12_worn_1 ?_
  obtain ⟨μ1, e2, hf⟩ := nm_some hf
  refine pf_12_1 C hw t0 dX12_worn_2 (fun H locs hw => ?_)
  rw [← e2] at hw
  refine r_aload_n C hl (kx := 0) rfl rfl dX12_worn_5 ?_
  refine r_iload_n C hl (kx := 1) rfl rfl dX12_worn_6 ?_
  refine r_i2l C dX12_worn_7 ?_
  obtain ⟨r4, μ3, e5, hf⟩ := bn_some hf
  refine r_callVv C hw (K := [(1, (nrm x1))]) ok12 t0 (c_X12_isLane l D b t0 e5) mi_X12_isLane in_X12_isLane se_X12_isLane kl_12_226 rfl rfl (lvh_sz hl) (by decide) (Kr := []) rfl (Nat.le_of_ble_eq_true rfl) dX12_worn_8 (fun H locs hw => ?_)
  refine r_if_eq C (tgt := 38) (by decide) dX12_worn_11 (fun c6 => ?_) (fun c6 => ?_)
  · have hf := ite_t c6 hf
    refine r_bipush C (by decide) dX12_worn_38 ?_
    exact r_iret C hw hf dX12_worn_40
  · have hf := ite_f c6 hf
    refine r_aload_n C hl (kx := 0) rfl rfl dX12_worn_14 ?_
    refine r_iload_n C hl (kx := 1) rfl rfl dX12_worn_15 ?_
    refine r_aload_n C hl (kx := 0) rfl rfl dX12_worn_16 ?_
    refine gf_12_13 C hw t0 dX12_worn_17 ?_
    refine r_bipush C (by decide) dX12_worn_20 ?_
    refine r_iload_n C hl (kx := 1) rfl rfl dX12_worn_22 ?_
    refine r_iadd C dX12_worn_23 ?_
    obtain ⟨g7, hf⟩ := gd_some hf
    refine r_iald C hw (n := 3300) (ow_12_1 t0) (j := (nrm (56 + x1))) rfl g7 (by decide) dX12_worn_24 ?_
    refine r_aload_n C hl (kx := 0) rfl rfl dX12_worn_25 ?_
    refine gf_12_13 C hw t0 dX12_worn_26 ?_
    refine r_bipush C (by decide) dX12_worn_29 ?_
    refine r_iald C hw (n := 3300) (ow_12_1 t0) (j := 66) (by decide) (by decide) (by decide) dX12_worn_31 ?_
    obtain ⟨r9, μ8, e10, hf⟩ := bn_some hf
    refine r_callVv C hw (K := [(0, x1), (0, (μ3 (x0 + 1) (nrm (56 + x1)))), (0, (μ3 (x0 + 1) 66))]) ok12 t0 (c_X12_wornTo l D b t0 e10) mi_X12_wornTo in_X12_wornTo se_X12_wornTo kl_12_240 rfl rfl (lvh_sz hl) (by decide) (Kr := []) rfl (Nat.le_of_ble_eq_true rfl) dX12_worn_32 (fun H locs hw => ?_)
    refine r_goto C (tgt := 40) (by decide) dX12_worn_35 ?_
    exact r_iret C hw hf dX12_worn_40
theorem c_X12_worn (l : Launch) (D : Ds) (b : Nat) {x0 x1 : Int} {μ μ' : Mem} {r : Int} (t0 : isK x0 12) (hf : f_X12_worn x0 x1 μ = some (r, μ')) : Ctr l D b yX12_worn cX12_worn 2 (some .int) 3 [(2, x0), (0, x1)] μ (some (.int (jI r))) μ' := by
  refine Ctr.of (by decide +kernel) (Nat.le_of_ble_eq_true rfl) ?_
  intro p e s m below meth c C hw ls hl
  exact w_X12_worn_0 C hf t0 hw hl
set_option maxHeartbeats 4000000 in
set_option maxRecDepth 20000 in
theorem w_X12_fillings_0 (C : Cx p s m args meth c D b cX12_fillings 2 RX12 (some .int)) {r : Int} {μ' : Mem} {x0 x1 : Int} {μ : Mem} {H : Heap} {locs : List Loc} {ls : Array Slot} (hf : f_X12_fillings x0 x1 μ = some (r, μ')) (t0 : isK x0 12) (hw : Hw D b μ s.heap H locs) (hl : lvh b ls 2 [(0, 2, x0), (1, 0, x1)]) : W p l e (rm 4) s m args below meth c H locs 0 0 (QM below args s D b (some (.int (jI r))) μ') (F0 m 0 ls []) := by
  unfold f_X12_fillings at hf
  refine r_aload_n C hl (kx := 0) rfl rfl dX12_fillings_0 ?_
  refine r_iconst C dX12_fillings_1 ?_
  obtain ⟨μ1, e2, hf⟩ := nm_some hf
  refine pf_12_1 C hw t0 dX12_fillings_2 (fun H locs hw => ?_)
  rw [← e2] at hw
  refine r_aload_n C hl (kx := 0) rfl rfl dX12_fillings_5 ?_
  refine r_iload_n C hl (kx := 1) rfl rfl dX12_fillings_6 ?_
  refine r_i2l C dX12_fillings_7 ?_
  obtain ⟨r4, μ3, e5, hf⟩ := bn_some hf
  refine r_callVv C hw (K := [(1, (nrm x1))]) ok12 t0 (c_X12_isLane l D b t0 e5) mi_X12_isLane in_X12_isLane se_X12_isLane kl_12_226 rfl rfl (lvh_sz hl) (by decide) (Kr := []) rfl (Nat.le_of_ble_eq_true rfl) dX12_fillings_8 (fun H locs hw => ?_)
  refine r_if_eq C (tgt := 22) (by decide) dX12_fillings_11 (fun c6 => ?_) (fun c6 => ?_)
  · have hf := ite_t c6 hf
    refine r_bipush C (by decide) dX12_fillings_22 ?_
    exact r_iret C hw hf dX12_fillings_24
  · have hf := ite_f c6 hf
    refine r_aload_n C hl (kx := 0) rfl rfl dX12_fillings_14 ?_
    refine r_iload_n C hl (kx := 1) rfl rfl dX12_fillings_15 ?_
    obtain ⟨r8, μ7, e9, hf⟩ := bn_some hf
    refine r_callVv C hw (K := [(0, x1)]) ok12 t0 (c_X12_fillingsOf l D b t0 e9) mi_X12_fillingsOf in_X12_fillingsOf se_X12_fillingsOf kl_12_243 rfl rfl (lvh_sz hl) (by decide) (Kr := []) rfl (Nat.le_of_ble_eq_true rfl) dX12_fillings_16 (fun H locs hw => ?_)
    refine r_goto C (tgt := 24) (by decide) dX12_fillings_19 ?_
    exact r_iret C hw hf dX12_fillings_24
theorem c_X12_fillings (l : Launch) (D : Ds) (b : Nat) {x0 x1 : Int} {μ μ' : Mem} {r : Int} (t0 : isK x0 12) (hf : f_X12_fillings x0 x1 μ = some (r, μ')) : Ctr l D b yX12_fillings cX12_fillings 2 (some .int) 4 [(2, x0), (0, x1)] μ (some (.int (jI r))) μ' := by
  refine Ctr.of (by decide +kernel) (Nat.le_of_ble_eq_true rfl) ?_
  intro p e s m below meth c C hw ls hl
  exact w_X12_fillings_0 C hf t0 hw hl
set_option maxHeartbeats 4000000 in
set_option maxRecDepth 20000 in
theorem w_X12_stores_2 (C : Cx p s m args meth c D b cX12_stores 2 RX12 (none)) {r : Int} {μ' : Mem} : ∀ (n : Nat) (x0 x1 : Int) (μ : Mem) (H : Heap) (locs : List Loc) (ls : Array Slot), f_X12_stores_w2 n x0 x1 μ = some (r, μ') → isK x0 12 → Hw D b μ s.heap H locs → lvh b ls 2 [(0, 2, x0), (1, 0, x1)] → W p l e (rm 0) s m args below meth c H locs 0 0 (QM below args s D b none μ') (F0 m 2 ls []) := by
  intro n
  induction n with
  | zero => intro x0 x1 μ H locs ls hf; cases hf
  | succ n ih =>
    intro x0 x1 μ H locs ls hf t0 hw hl
    rw [f_X12_stores_w2.eq_2] at hf
    refine r_iload_n C hl (kx := 1) rfl rfl dX12_stores_2 ?_
    refine r_bipush C (by decide) dX12_stores_3 ?_
    refine r_icmp_ge C (tgt := 29) (by decide) dX12_stores_5 (fun c1 => ?_) (fun c1 => ?_)
    · have hf := ite_t c1 hf
      exact r_vret C hw hf dX12_stores_29
    · have hf := ite_f c1 hf
      refine r_aload_n C hl (kx := 0) rfl rfl dX12_stores_8 ?_
      refine gf_12_36 C hw t0 dX12_stores_9 ?_
      refine r_iload_n C hl (kx := 1) rfl rfl dX12_stores_12 ?_
      refine r_aload_n C hl (kx := 0) rfl rfl dX12_stores_13 ?_
      refine gf_12_13 C hw t0 dX12_stores_14 ?_
      refine r_bipush C (by decide) dX12_stores_17 ?_
      refine r_iload_n C hl (kx := 1) rfl rfl dX12_stores_19 ?_
      refine r_iadd C dX12_stores_20 ?_
      obtain ⟨g2, hf⟩ := gd_some hf
      refine r_iald C hw (n := 3300) (ow_12_1 t0) (j := (nrm (55 + x1))) rfl g2 (by decide) dX12_stores_21 ?_
      obtain ⟨g5, hf⟩ := gd_some hf
      obtain ⟨μ3, e4, hf⟩ := nm_some hf
      refine r_iast C hw (n := 13) (ow_12_18 t0) (j := (nrm x1)) rfl g5 (by decide) dX12_stores_22 (fun H locs hw => ?_)
      rw [← e4] at hw
      refine r_iinc C hl (kx := 1) rfl (by decide) (L' := [(1, 0, (x1 + 1)), (0, 2, x0)]) rfl dX12_stores_23 (fun ls hl => ?_)
      refine r_goto C (tgt := 2) (by decide) dX12_stores_26 ?_
      exact ih _ _ _ _ _ _ hf t0 hw (lvh_sub hl [1, 0] rfl)
set_option maxHeartbeats 4000000 in
set_option maxRecDepth 20000 in
theorem w_X12_stores_0 (C : Cx p s m args meth c D b cX12_stores 2 RX12 (none)) {r : Int} {μ' : Mem} {x0 : Int} {μ : Mem} {H : Heap} {locs : List Loc} {ls : Array Slot} (hf : f_X12_stores x0 μ = some (r, μ')) (t0 : isK x0 12) (hw : Hw D b μ s.heap H locs) (hl : lvh b ls 2 [(0, 2, x0)]) : W p l e (rm 0) s m args below meth c H locs 0 0 (QM below args s D b none μ') (F0 m 0 ls []) := by
  unfold f_X12_stores at hf
  refine r_iconst C dX12_stores_0 ?_
  refine r_istore_n C hl (by decide) (L' := [(1, 0, 0), (0, 2, x0)]) rfl rfl dX12_stores_1 (fun ls hl => ?_)
  exact w_X12_stores_2 C FU _ _ _ _ _ _ hf t0 hw (lvh_sub hl [1, 0] rfl)
theorem c_X12_stores (l : Launch) (D : Ds) (b : Nat) {x0 : Int} {μ μ' : Mem} {r : Int} (t0 : isK x0 12) (hf : f_X12_stores x0 μ = some (r, μ')) : Ctr l D b yX12_stores cX12_stores 2 (none) 0 [(2, x0)] μ none μ' := by
  refine Ctr.of (by decide +kernel) (Nat.le_of_ble_eq_true rfl) ?_
  intro p e s m below meth c C hw ls hl
  exact w_X12_stores_0 C hf t0 hw hl
set_option maxHeartbeats 4000000 in
set_option maxRecDepth 20000 in
theorem w_X12_isAgain_2 (C : Cx p s m args meth c D b cX12_isAgain 2 RX12 (none)) {r : Int} {μ' : Mem} : ∀ (n : Nat) (x0 x1 : Int) (μ : Mem) (H : Heap) (locs : List Loc) (ls : Array Slot), f_X12_isAgain_w2 n x0 x1 μ = some (r, μ') → isK x0 12 → Hw D b μ s.heap H locs → lvh b ls 2 [(0, 2, x0), (1, 0, x1)] → W p l e (rm 0) s m args below meth c H locs 0 0 (QM below args s D b none μ') (F0 m 2 ls []) := by
  intro n
  induction n with
  | zero => intro x0 x1 μ H locs ls hf; cases hf
  | succ n ih =>
    intro x0 x1 μ H locs ls hf t0 hw hl
    rw [f_X12_isAgain_w2.eq_2] at hf
    refine r_iload_n C hl (kx := 1) rfl rfl dX12_isAgain_2 ?_
    refine r_bipush C (by decide) dX12_isAgain_3 ?_
    refine r_icmp_ge C (tgt := 29) (by decide) dX12_isAgain_5 (fun c1 => ?_) (fun c1 => ?_)
    · have hf := ite_t c1 hf
      exact r_vret C hw hf dX12_isAgain_29
    · have hf := ite_f c1 hf
      refine r_aload_n C hl (kx := 0) rfl rfl dX12_isAgain_8 ?_
      refine gf_12_13 C hw t0 dX12_isAgain_9 ?_
      refine r_bipush C (by decide) dX12_isAgain_12 ?_
      refine r_iload_n C hl (kx := 1) rfl rfl dX12_isAgain_14 ?_
      refine r_iadd C dX12_isAgain_15 ?_
      refine r_aload_n C hl (kx := 0) rfl rfl dX12_isAgain_16 ?_
      refine gf_12_36 C hw t0 dX12_isAgain_17 ?_
      refine r_iload_n C hl (kx := 1) rfl rfl dX12_isAgain_20 ?_
      obtain ⟨g2, hf⟩ := gd_some hf
      refine r_iald C hw (n := 13) (ow_12_18 t0) (j := (nrm x1)) rfl g2 (by decide) dX12_isAgain_21 ?_
      obtain ⟨g5, hf⟩ := gd_some hf
      obtain ⟨μ3, e4, hf⟩ := nm_some hf
      refine r_iast C hw (n := 3300) (ow_12_1 t0) (j := (nrm (55 + x1))) rfl g5 (by decide) dX12_isAgain_22 (fun H locs hw => ?_)
      rw [← e4] at hw
      refine r_iinc C hl (kx := 1) rfl (by decide) (L' := [(1, 0, (x1 + 1)), (0, 2, x0)]) rfl dX12_isAgain_23 (fun ls hl => ?_)
      refine r_goto C (tgt := 2) (by decide) dX12_isAgain_26 ?_
      exact ih _ _ _ _ _ _ hf t0 hw (lvh_sub hl [1, 0] rfl)
set_option maxHeartbeats 4000000 in
set_option maxRecDepth 20000 in
theorem w_X12_isAgain_0 (C : Cx p s m args meth c D b cX12_isAgain 2 RX12 (none)) {r : Int} {μ' : Mem} {x0 : Int} {μ : Mem} {H : Heap} {locs : List Loc} {ls : Array Slot} (hf : f_X12_isAgain x0 μ = some (r, μ')) (t0 : isK x0 12) (hw : Hw D b μ s.heap H locs) (hl : lvh b ls 2 [(0, 2, x0)]) : W p l e (rm 0) s m args below meth c H locs 0 0 (QM below args s D b none μ') (F0 m 0 ls []) := by
  unfold f_X12_isAgain at hf
  refine r_iconst C dX12_isAgain_0 ?_
  refine r_istore_n C hl (by decide) (L' := [(1, 0, 0), (0, 2, x0)]) rfl rfl dX12_isAgain_1 (fun ls hl => ?_)
  exact w_X12_isAgain_2 C FU _ _ _ _ _ _ hf t0 hw (lvh_sub hl [1, 0] rfl)
theorem c_X12_isAgain (l : Launch) (D : Ds) (b : Nat) {x0 : Int} {μ μ' : Mem} {r : Int} (t0 : isK x0 12) (hf : f_X12_isAgain x0 μ = some (r, μ')) : Ctr l D b yX12_isAgain cX12_isAgain 2 (none) 0 [(2, x0)] μ none μ' := by
  refine Ctr.of (by decide +kernel) (Nat.le_of_ble_eq_true rfl) ?_
  intro p e s m below meth c C hw ls hl
  exact w_X12_isAgain_0 C hf t0 hw hl
set_option maxHeartbeats 4000000 in
set_option maxRecDepth 20000 in
theorem w_X12_notes_57 (C : Cx p s m args meth c D b cX12_notes 2 RX12 (none)) {r : Int} {μ' : Mem} : ∀ (n : Nat) (x0 x1 : Int) (μ : Mem) (H : Heap) (locs : List Loc) (ls : Array Slot), f_X12_notes_w57 n x0 x1 μ = some (r, μ') → isK x0 12 → Hw D b μ s.heap H locs → lvh b ls 2 [(0, 2, x0), (1, 0, x1)] → W p l e (rm 0) s m args below meth c H locs 0 0 (QM below args s D b none μ') (F0 m 57 ls []) := by
  intro n
  induction n with
  | zero => intro x0 x1 μ H locs ls hf; cases hf
  | succ n ih =>
    intro x0 x1 μ H locs ls hf t0 hw hl
    rw [f_X12_notes_w57.eq_2] at hf
    refine r_iload_n C hl (kx := 1) rfl rfl dX12_notes_57 ?_
    refine r_bipush C (by decide) dX12_notes_58 ?_
    refine r_icmp_ge C (tgt := 95) (by decide) dX12_notes_60 (fun c1 => ?_) (fun c1 => ?_)
    · have hf := ite_t c1 hf
      refine r_aload_n C hl (kx := 0) rfl rfl dX12_notes_95 ?_
      refine gf_12_13 C hw t0 dX12_notes_96 ?_
      refine r_bipush C (by decide) dX12_notes_99 ?_
      refine r_dup2 C rfl (rfv_cat _ _) dX12_notes_101 ?_
      refine r_iald C hw (n := 3300) (ow_12_1 t0) (j := 68) (by decide) (by decide) (by decide) dX12_notes_102 ?_
      refine r_iconst C dX12_notes_103 ?_
      refine r_iadd C dX12_notes_104 ?_
      obtain ⟨μ2, e3, hf⟩ := nm_some hf
      refine r_iast C hw (n := 3300) (ow_12_1 t0) (j := 68) (by decide) (by decide) (by decide) dX12_notes_105 (fun H locs hw => ?_)
      rw [← e3] at hw
      exact r_vret C hw hf dX12_notes_106
    · have hf := ite_f c1 hf
      refine r_aload_n C hl (kx := 0) rfl rfl dX12_notes_63 ?_
      refine gf_12_13 C hw t0 dX12_notes_64 ?_
      refine r_bipush C (by decide) dX12_notes_67 ?_
      refine r_bipush C (by decide) dX12_notes_69 ?_
      refine r_aload_n C hl (kx := 0) rfl rfl dX12_notes_71 ?_
      refine gf_12_13 C hw t0 dX12_notes_72 ?_
      refine r_bipush C (by decide) dX12_notes_75 ?_
      refine r_iald C hw (n := 3300) (ow_12_1 t0) (j := 68) (by decide) (by decide) (by decide) dX12_notes_77 ?_
      refine r_imul C dX12_notes_78 ?_
      refine r_iadd C dX12_notes_79 ?_
      refine r_iload_n C hl (kx := 1) rfl rfl dX12_notes_80 ?_
      refine r_iadd C dX12_notes_81 ?_
      refine r_aload_n C hl (kx := 0) rfl rfl dX12_notes_82 ?_
      refine gf_12_36 C hw t0 dX12_notes_83 ?_
      refine r_iload_n C hl (kx := 1) rfl rfl dX12_notes_86 ?_
      obtain ⟨g4, hf⟩ := gd_some hf
      refine r_iald C hw (n := 13) (ow_12_18 t0) (j := (nrm x1)) rfl g4 (by decide) dX12_notes_87 ?_
      obtain ⟨g7, hf⟩ := gd_some hf
      obtain ⟨μ5, e6, hf⟩ := nm_some hf
      refine r_iast C hw (n := 3300) (ow_12_1 t0) (j := (nrm ((69 + (13 * (μ (x0 + 1) 68))) + x1))) rfl g7 (by decide) dX12_notes_88 (fun H locs hw => ?_)
      rw [← e6] at hw
      refine r_iinc C hl (kx := 1) rfl (by decide) (L' := [(1, 0, (x1 + 1)), (0, 2, x0)]) rfl dX12_notes_89 (fun ls hl => ?_)
      refine r_goto C (tgt := 57) (by decide) dX12_notes_92 ?_
      exact ih _ _ _ _ _ _ hf t0 hw (lvh_sub hl [1, 0] rfl)
set_option maxHeartbeats 4000000 in
set_option maxRecDepth 20000 in
theorem w_X12_notes_55 (C : Cx p s m args meth c D b cX12_notes 2 RX12 (none)) {r : Int} {μ' : Mem} {x0 : Int} {μ : Mem} {H : Heap} {locs : List Loc} {ls : Array Slot} (hf : f_X12_notes_j55 x0 μ = some (r, μ')) (t0 : isK x0 12) (hw : Hw D b μ s.heap H locs) (hl : lvh b ls 2 [(0, 2, x0)]) : W p l e (rm 0) s m args below meth c H locs 0 0 (QM below args s D b none μ') (F0 m 55 ls []) := by
  unfold f_X12_notes_j55 at hf
  refine r_iconst C dX12_notes_55 ?_
  refine r_istore_n C hl (by decide) (L' := [(1, 0, 0), (0, 2, x0)]) rfl rfl dX12_notes_56 (fun ls hl => ?_)
  exact w_X12_notes_57 C FU _ _ _ _ _ _ hf t0 hw (lvh_sub hl [1, 0] rfl)
set_option maxHeartbeats 4000000 in
set_option maxRecDepth 20000 in
theorem w_X12_notes_14 (C : Cx p s m args meth c D b cX12_notes 2 RX12 (none)) {r : Int} {μ' : Mem} : ∀ (n : Nat) (x0 x1 : Int) (μ : Mem) (H : Heap) (locs : List Loc) (ls : Array Slot), f_X12_notes_w14 n x0 x1 μ = some (r, μ') → isK x0 12 → Hw D b μ s.heap H locs → lvh b ls 2 [(0, 2, x0), (1, 0, x1)] → W p l e (rm 0) s m args below meth c H locs 0 0 (QM below args s D b none μ') (F0 m 14 ls []) := by
  intro n
  induction n with
  | zero => intro x0 x1 μ H locs ls hf; cases hf
  | succ n ih =>
    intro x0 x1 μ H locs ls hf t0 hw hl
    rw [f_X12_notes_w14.eq_2] at hf
    refine r_iload_n C hl (kx := 1) rfl rfl dX12_notes_14 ?_
    refine r_bipush C (by decide) dX12_notes_15 ?_
    refine r_icmp_ge C (tgt := 44) (by decide) dX12_notes_17 (fun c1 => ?_) (fun c1 => ?_)
    · have hf := ite_t c1 hf
      refine r_aload_n C hl (kx := 0) rfl rfl dX12_notes_44 ?_
      refine gf_12_13 C hw t0 dX12_notes_45 ?_
      refine r_bipush C (by decide) dX12_notes_48 ?_
      refine r_dup2 C rfl (rfv_cat _ _) dX12_notes_50 ?_
      refine r_iald C hw (n := 3300) (ow_12_1 t0) (j := 68) (by decide) (by decide) (by decide) dX12_notes_51 ?_
      refine r_iconst C dX12_notes_52 ?_
      refine r_isub C dX12_notes_53 ?_
      obtain ⟨μ2, e3, hf⟩ := nm_some hf
      refine r_iast C hw (n := 3300) (ow_12_1 t0) (j := 68) (by decide) (by decide) (by decide) dX12_notes_54 (fun H locs hw => ?_)
      rw [← e3] at hw
      exact w_X12_notes_55 C hf t0 hw (lvh_sub hl [0] rfl)
    · have hf := ite_f c1 hf
      refine r_aload_n C hl (kx := 0) rfl rfl dX12_notes_20 ?_
      refine gf_12_13 C hw t0 dX12_notes_21 ?_
      refine r_bipush C (by decide) dX12_notes_24 ?_
      refine r_iload_n C hl (kx := 1) rfl rfl dX12_notes_26 ?_
      refine r_iadd C dX12_notes_27 ?_
      refine r_aload_n C hl (kx := 0) rfl rfl dX12_notes_28 ?_
      refine gf_12_13 C hw t0 dX12_notes_29 ?_
      refine r_bipush C (by decide) dX12_notes_32 ?_
      refine r_iload_n C hl (kx := 1) rfl rfl dX12_notes_34 ?_
      refine r_iadd C dX12_notes_35 ?_
      obtain ⟨g4, hf⟩ := gd_some hf
      refine r_iald C hw (n := 3300) (ow_12_1 t0) (j := (nrm (82 + x1))) rfl g4 (by decide) dX12_notes_36 ?_
      obtain ⟨g7, hf⟩ := gd_some hf
      obtain ⟨μ5, e6, hf⟩ := nm_some hf
      refine r_iast C hw (n := 3300) (ow_12_1 t0) (j := (nrm (69 + x1))) rfl g7 (by decide) dX12_notes_37 (fun H locs hw => ?_)
      rw [← e6] at hw
      refine r_iinc C hl (kx := 1) rfl (by decide) (L' := [(1, 0, (x1 + 1)), (0, 2, x0)]) rfl dX12_notes_38 (fun ls hl => ?_)
      refine r_goto C (tgt := 14) (by decide) dX12_notes_41 ?_
      exact ih _ _ _ _ _ _ hf t0 hw (lvh_sub hl [1, 0] rfl)
set_option maxHeartbeats 4000000 in
set_option maxRecDepth 20000 in
theorem w_X12_notes_0 (C : Cx p s m args meth c D b cX12_notes 2 RX12 (none)) {r : Int} {μ' : Mem} {x0 : Int} {μ : Mem} {H : Heap} {locs : List Loc} {ls : Array Slot} (hf : f_X12_notes x0 μ = some (r, μ')) (t0 : isK x0 12) (hw : Hw D b μ s.heap H locs) (hl : lvh b ls 2 [(0, 2, x0)]) : W p l e (rm 0) s m args below meth c H locs 0 0 (QM below args s D b none μ') (F0 m 0 ls []) := by
  unfold f_X12_notes at hf
  refine r_aload_n C hl (kx := 0) rfl rfl dX12_notes_0 ?_
  refine gf_12_13 C hw t0 dX12_notes_1 ?_
  refine r_bipush C (by decide) dX12_notes_4 ?_
  refine r_iald C hw (n := 3300) (ow_12_1 t0) (j := 68) (by decide) (by decide) (by decide) dX12_notes_6 ?_
  refine r_bipush C (by decide) dX12_notes_7 ?_
  refine r_icmp_ne C (tgt := 55) (by decide) dX12_notes_9 (fun c1 => ?_) (fun c1 => ?_)
  · have hf := ite_f c1 hf
    exact w_X12_notes_55 C hf t0 hw (lvh_sub hl [0] rfl)
  · have hf := ite_t c1 hf
    refine r_iconst C dX12_notes_12 ?_
    refine r_istore_n C hl (by decide) (L' := [(1, 0, 0), (0, 2, x0)]) rfl rfl dX12_notes_13 (fun ls hl => ?_)
    exact w_X12_notes_14 C FU _ _ _ _ _ _ hf t0 hw (lvh_sub hl [1, 0] rfl)
theorem c_X12_notes (l : Launch) (D : Ds) (b : Nat) {x0 : Int} {μ μ' : Mem} {r : Int} (t0 : isK x0 12) (hf : f_X12_notes x0 μ = some (r, μ')) : Ctr l D b yX12_notes cX12_notes 2 (none) 0 [(2, x0)] μ none μ' := by
  refine Ctr.of (by decide +kernel) (Nat.le_of_ble_eq_true rfl) ?_
  intro p e s m below meth c C hw ls hl
  exact w_X12_notes_0 C hf t0 hw hl
set_option maxHeartbeats 4000000 in
set_option maxRecDepth 20000 in
theorem w_X12_goes_0 (C : Cx p s m args meth c D b cX12_goes 2 RX12 (none)) {r : Int} {μ' : Mem} {x0 x1 : Int} {μ : Mem} {H : Heap} {locs : List Loc} {ls : Array Slot} (hf : f_X12_goes x0 x1 μ = some (r, μ')) (t0 : isK x0 12) (hw : Hw D b μ s.heap H locs) (hl : lvh b ls 2 [(0, 2, x0), (1, 0, x1)]) : W p l e (rm 3) s m args below meth c H locs 0 0 (QM below args s D b none μ') (F0 m 0 ls []) := by
  unfold f_X12_goes at hf
  refine r_aload_n C hl (kx := 0) rfl rfl dX12_goes_0 ?_
  refine gf_12_13 C hw t0 dX12_goes_1 ?_
  refine r_bipush C (by decide) dX12_goes_4 ?_
  refine r_aload_n C hl (kx := 0) rfl rfl dX12_goes_6 ?_
  refine r_iload_n C hl (kx := 1) rfl rfl dX12_goes_7 ?_
  refine r_aload_n C hl (kx := 0) rfl rfl dX12_goes_8 ?_
  refine gf_12_13 C hw t0 dX12_goes_9 ?_
  refine r_bipush C (by decide) dX12_goes_12 ?_
  refine r_iald C hw (n := 3300) (ow_12_1 t0) (j := 55) (by decide) (by decide) (by decide) dX12_goes_14 ?_
  obtain ⟨r2, μ1, e3, hf⟩ := bn_some hf
  refine r_callVv C hw (K := [(0, x1), (0, (μ (x0 + 1) 55))]) ok12 t0 (c_X12_otherEnd l D b t0 e3) mi_X12_otherEnd in_X12_otherEnd se_X12_otherEnd kl_12_230 rfl rfl (lvh_sz hl) (by decide) (Kr := [(0, 55), (2, (x0 + 1))]) rfl (Nat.le_of_ble_eq_true rfl) dX12_goes_15 (fun H locs hw => ?_)
  obtain ⟨μ4, e5, hf⟩ := nm_some hf
  refine r_iast C hw (n := 3300) (ow_12_1 t0) (j := 55) (by decide) (by decide) (by decide) dX12_goes_18 (fun H locs hw => ?_)
  rw [← e5] at hw
  refine r_aload_n C hl (kx := 0) rfl rfl dX12_goes_19 ?_
  refine gf_12_13 C hw t0 dX12_goes_20 ?_
  refine r_bipush C (by decide) dX12_goes_23 ?_
  refine r_iload_n C hl (kx := 1) rfl rfl dX12_goes_25 ?_
  refine r_iadd C dX12_goes_26 ?_
  refine r_aload_n C hl (kx := 0) rfl rfl dX12_goes_27 ?_
  refine r_iload_n C hl (kx := 1) rfl rfl dX12_goes_28 ?_
  refine r_aload_n C hl (kx := 0) rfl rfl dX12_goes_29 ?_
  refine gf_12_13 C hw t0 dX12_goes_30 ?_
  refine r_bipush C (by decide) dX12_goes_33 ?_
  refine r_iload_n C hl (kx := 1) rfl rfl dX12_goes_35 ?_
  refine r_iadd C dX12_goes_36 ?_
  obtain ⟨g6, hf⟩ := gd_some hf
  refine r_iald C hw (n := 3300) (ow_12_1 t0) (j := (nrm (56 + x1))) rfl g6 (by decide) dX12_goes_37 ?_
  refine r_aload_n C hl (kx := 0) rfl rfl dX12_goes_38 ?_
  refine gf_12_13 C hw t0 dX12_goes_39 ?_
  refine r_bipush C (by decide) dX12_goes_42 ?_
  refine r_iald C hw (n := 3300) (ow_12_1 t0) (j := 66) (by decide) (by decide) (by decide) dX12_goes_44 ?_
  obtain ⟨r8, μ7, e9, hf⟩ := bn_some hf
  refine r_callVv C hw (K := [(0, x1), (0, (μ4 (x0 + 1) (nrm (56 + x1)))), (0, (μ4 (x0 + 1) 66))]) ok12 t0 (c_X12_wornTo l D b t0 e9) mi_X12_wornTo in_X12_wornTo se_X12_wornTo kl_12_240 rfl rfl (lvh_sz hl) (by decide) (Kr := [(0, (56 + x1)), (2, (x0 + 1))]) rfl (Nat.le_of_ble_eq_true rfl) dX12_goes_45 (fun H locs hw => ?_)
  obtain ⟨g12, hf⟩ := gd_some hf
  obtain ⟨μ10, e11, hf⟩ := nm_some hf
  refine r_iast C hw (n := 3300) (ow_12_1 t0) (j := (nrm (56 + x1))) rfl g12 (by decide) dX12_goes_48 (fun H locs hw => ?_)
  rw [← e11] at hw
  refine r_aload_n C hl (kx := 0) rfl rfl dX12_goes_49 ?_
  refine gf_12_13 C hw t0 dX12_goes_50 ?_
  refine r_bipush C (by decide) dX12_goes_53 ?_
  refine r_dup2 C rfl (rfv_cat _ _) dX12_goes_55 ?_
  refine r_iald C hw (n := 3300) (ow_12_1 t0) (j := 67) (by decide) (by decide) (by decide) dX12_goes_56 ?_
  refine r_iconst C dX12_goes_57 ?_
  refine r_iadd C dX12_goes_58 ?_
  obtain ⟨μ13, e14, hf⟩ := nm_some hf
  refine r_iast C hw (n := 3300) (ow_12_1 t0) (j := 67) (by decide) (by decide) (by decide) dX12_goes_59 (fun H locs hw => ?_)
  rw [← e14] at hw
  exact r_vret C hw hf dX12_goes_60
theorem c_X12_goes (l : Launch) (D : Ds) (b : Nat) {x0 x1 : Int} {μ μ' : Mem} {r : Int} (t0 : isK x0 12) (hf : f_X12_goes x0 x1 μ = some (r, μ')) : Ctr l D b yX12_goes cX12_goes 2 (none) 3 [(2, x0), (0, x1)] μ none μ' := by
  refine Ctr.of (by decide +kernel) (Nat.le_of_ble_eq_true rfl) ?_
  intro p e s m below meth c C hw ls hl
  exact w_X12_goes_0 C hf t0 hw hl
set_option maxHeartbeats 4000000 in
set_option maxRecDepth 20000 in
theorem w_X12_go_0 (C : Cx p s m args meth c D b cX12_go 3 RX12 (some .int)) {r : Int} {μ' : Mem} {x0 x1 : Int} {μ : Mem} {H : Heap} {locs : List Loc} {ls : Array Slot} (hf : f_X12_go x0 x1 μ = some (r, μ')) (t0 : isK x0 12) (hw : Hw D b μ s.heap H locs) (hl : lvh b ls 3 [(0, 2, x0), (1, 0, x1)]) : W p l e (rm 5) s m args below meth c H locs 0 0 (QM below args s D b (some (.int (jI r))) μ') (F0 m 0 ls []) := by
  unfold f_X12_go at hf
  refine r_aload_n C hl (kx := 0) rfl rfl dX12_go_0 ?_
  refine r_iconst C dX12_go_1 ?_
  obtain ⟨μ1, e2, hf⟩ := nm_some hf
  refine pf_12_1 C hw t0 dX12_go_2 (fun H locs hw => ?_)
  rw [← e2] at hw
  refine r_aload_n C hl (kx := 0) rfl rfl dX12_go_5 ?_
  refine r_iload_n C hl (kx := 1) rfl rfl dX12_go_6 ?_
  refine r_i2l C dX12_go_7 ?_
  obtain ⟨r4, μ3, e5, hf⟩ := bn_some hf
  refine r_callVv C hw (K := [(1, (nrm x1))]) ok12 t0 (c_X12_whyGo l D b t0 e5) mi_X12_whyGo in_X12_whyGo se_X12_whyGo kl_12_236 rfl rfl (lvh_sz hl) (by decide) (Kr := []) rfl (Nat.le_of_ble_eq_true rfl) dX12_go_8 (fun H locs hw => ?_)
  refine r_istore_n C hl (by decide) (L' := [(2, 0, r4), (0, 2, x0), (1, 0, x1)]) rfl rfl dX12_go_11 (fun ls hl => ?_)
  refine r_iload_n C hl (kx := 0) rfl rfl dX12_go_12 ?_
  refine r_if_eq C (tgt := 21) (by decide) dX12_go_13 (fun c6 => ?_) (fun c6 => ?_)
  · have hf := ite_t c6 hf
    refine r_aload_n C hl (kx := 1) rfl rfl dX12_go_21 ?_
    obtain ⟨r8, μ7, e9, hf⟩ := bn_some hf
    refine r_callVn C hw (K := []) ok12 t0 (c_X12_stores l D b t0 e9) mi_X12_stores in_X12_stores se_X12_stores kl_12_246 rfl rfl (lvh_sz hl) (by decide) (Kr := []) rfl (Nat.le_of_ble_eq_true rfl) dX12_go_22 (fun H locs hw => ?_)
    refine r_aload_n C hl (kx := 1) rfl rfl dX12_go_25 ?_
    refine r_iload_n C hl (kx := 2) rfl rfl dX12_go_26 ?_
    obtain ⟨r11, μ10, e12, hf⟩ := bn_some hf
    refine r_callVn C hw (K := [(0, x1)]) ok12 t0 (c_X12_goes l D b t0 e12) mi_X12_goes in_X12_goes se_X12_goes kl_12_249 rfl rfl (lvh_sz hl) (by decide) (Kr := []) rfl (Nat.le_of_ble_eq_true rfl) dX12_go_27 (fun H locs hw => ?_)
    refine r_aload_n C hl (kx := 1) rfl rfl dX12_go_30 ?_
    obtain ⟨r14, μ13, e15, hf⟩ := bn_some hf
    refine r_callVn C hw (K := []) ok12 t0 (c_X12_notes l D b t0 e15) mi_X12_notes in_X12_notes se_X12_notes kl_12_252 rfl rfl (lvh_sz hl) (by decide) (Kr := []) rfl (Nat.le_of_ble_eq_true rfl) dX12_go_31 (fun H locs hw => ?_)
    refine r_aload_n C hl (kx := 1) rfl rfl dX12_go_34 ?_
    refine gf_12_13 C hw t0 dX12_go_35 ?_
    refine r_bipush C (by decide) dX12_go_38 ?_
    refine r_iald C hw (n := 3300) (ow_12_1 t0) (j := 55) (by decide) (by decide) (by decide) dX12_go_40 ?_
    exact r_iret C hw hf dX12_go_41
  · have hf := ite_f c6 hf
    refine r_bipush C (by decide) dX12_go_16 ?_
    refine r_iload_n C hl (kx := 0) rfl rfl dX12_go_18 ?_
    refine r_isub C dX12_go_19 ?_
    exact r_iret C hw hf dX12_go_20
theorem c_X12_go (l : Launch) (D : Ds) (b : Nat) {x0 x1 : Int} {μ μ' : Mem} {r : Int} (t0 : isK x0 12) (hf : f_X12_go x0 x1 μ = some (r, μ')) : Ctr l D b yX12_go cX12_go 3 (some .int) 5 [(2, x0), (0, x1)] μ (some (.int (jI r))) μ' := by
  refine Ctr.of (by decide +kernel) (Nat.le_of_ble_eq_true rfl) ?_
  intro p e s m below meth c C hw ls hl
  exact w_X12_go_0 C hf t0 hw hl
set_option maxHeartbeats 4000000 in
set_option maxRecDepth 20000 in
theorem w_X12_whyRut_32 (C : Cx p s m args meth c D b cX12_whyRut 4 RX12 (some .int)) {r : Int} {μ' : Mem} {s0 s1 : Int} {μ : Mem} {H : Heap} {locs : List Loc} {ls : Array Slot} (hf : f_X12_whyRut_j32 s0 s1 μ = some (r, μ')) (hw : Hw D b μ s.heap H locs) (hl : lvh b ls 4 []) : W p l e (rm 2) s m args below meth c H locs 0 0 (QM below args s D b (some (.int (jI r))) μ') (F0 m 32 ls [.int (jI s1), .int (jI s0)]) := by
  unfold f_X12_whyRut_j32 at hf
  refine r_icmp_ne C (tgt := 39) (by decide) dX12_whyRut_32 (fun c1 => ?_) (fun c1 => ?_)
  · have hf := ite_f c1 hf
    refine r_iconst C dX12_whyRut_39 ?_
    exact r_iret C hw hf dX12_whyRut_40
  · have hf := ite_t c1 hf
    refine r_iconst C dX12_whyRut_35 ?_
    refine r_goto C (tgt := 40) (by decide) dX12_whyRut_36 ?_
    exact r_iret C hw hf dX12_whyRut_40
set_option maxHeartbeats 4000000 in
set_option maxRecDepth 20000 in
theorem w_X12_whyRut_0 (C : Cx p s m args meth c D b cX12_whyRut 4 RX12 (some .int)) {r : Int} {μ' : Mem} {x0 x1 x3 : Int} {μ : Mem} {H : Heap} {locs : List Loc} {ls : Array Slot} (hf : f_X12_whyRut x0 x1 x3 μ = some (r, μ')) (t0 : isK x0 12) (hw : Hw D b μ s.heap H locs) (hl : lvh b ls 4 [(0, 2, x0), (1, 1, x1), (3, 0, x3)]) : W p l e (rm 2) s m args below meth c H locs 0 0 (QM below args s D b (some (.int (jI r))) μ') (F0 m 0 ls []) := by
  unfold f_X12_whyRut at hf
  refine r_aload_n C hl (kx := 0) rfl rfl dX12_whyRut_0 ?_
  refine r_lload_n C hl (kx := 1) rfl rfl dX12_whyRut_1 ?_
  obtain ⟨r2, μ1, e3, hf⟩ := bn_some hf
  refine r_callVv C hw (K := [(1, x1)]) ok12 t0 (c_X12_isLane l D b t0 e3) mi_X12_isLane in_X12_isLane se_X12_isLane kl_12_226 rfl rfl (lvh_sz hl) (by decide) (Kr := []) rfl (Nat.le_of_ble_eq_true rfl) dX12_whyRut_2 (fun H locs hw => ?_)
  refine r_if_ne C (tgt := 12) (by decide) dX12_whyRut_5 (fun c4 => ?_) (fun c4 => ?_)
  · have hf := ite_f c4 hf
    refine r_aload_n C hl (kx := 0) rfl rfl dX12_whyRut_12 ?_
    refine gf_12_13 C hw t0 dX12_whyRut_13 ?_
    refine r_bipush C (by decide) dX12_whyRut_16 ?_
    refine r_lload_n C hl (kx := 1) rfl rfl dX12_whyRut_18 ?_
    refine r_l2i C dX12_whyRut_19 ?_
    refine r_iadd C dX12_whyRut_20 ?_
    obtain ⟨g5, hf⟩ := gd_some hf
    refine r_iald C hw (n := 3300) (ow_12_1 t0) (j := (nrm (56 + x1))) rfl g5 (by decide) dX12_whyRut_21 ?_
    refine r_iload_n C hl (kx := 2) rfl rfl dX12_whyRut_22 ?_
    refine r_if_ge C (tgt := 30) (by decide) dX12_whyRut_23 (fun c6 => ?_) (fun c6 => ?_)
    · have hf := ite_t c6 hf
      refine r_bipush C (by decide) dX12_whyRut_30 ?_
      exact w_X12_whyRut_32 C hf hw (lvh_sub hl [] rfl)
    · have hf := ite_f c6 hf
      refine r_iconst C dX12_whyRut_26 ?_
      refine r_goto C (tgt := 32) (by decide) dX12_whyRut_27 ?_
      exact w_X12_whyRut_32 C hf hw (lvh_sub hl [] rfl)
  · have hf := ite_t c4 hf
    refine r_iconst C dX12_whyRut_8 ?_
    refine r_goto C (tgt := 40) (by decide) dX12_whyRut_9 ?_
    exact r_iret C hw hf dX12_whyRut_40
theorem c_X12_whyRut (l : Launch) (D : Ds) (b : Nat) {x0 x1 x3 : Int} {μ μ' : Mem} {r : Int} (t0 : isK x0 12) (hf : f_X12_whyRut x0 x1 x3 μ = some (r, μ')) : Ctr l D b yX12_whyRut cX12_whyRut 4 (some .int) 2 [(2, x0), (1, x1), (0, x3)] μ (some (.int (jI r))) μ' := by
  refine Ctr.of (by decide +kernel) (Nat.le_of_ble_eq_true rfl) ?_
  intro p e s m below meth c C hw ls hl
  exact w_X12_whyRut_0 C hf t0 hw hl
set_option maxHeartbeats 4000000 in
set_option maxRecDepth 20000 in
theorem w_X12_shovels_0 (C : Cx p s m args meth c D b cX12_shovels 4 RX12 (some .int)) {r : Int} {μ' : Mem} {x0 x1 x2 : Int} {μ : Mem} {H : Heap} {locs : List Loc} {ls : Array Slot} (hf : f_X12_shovels x0 x1 x2 μ = some (r, μ')) (t0 : isK x0 12) (hw : Hw D b μ s.heap H locs) (hl : lvh b ls 4 [(0, 2, x0), (1, 0, x1), (2, 0, x2)]) : W p l e (rm 3) s m args below meth c H locs 0 0 (QM below args s D b (some (.int (jI r))) μ') (F0 m 0 ls []) := by
  unfold f_X12_shovels at hf
  refine r_aload_n C hl (kx := 0) rfl rfl dX12_shovels_0 ?_
  refine r_iload_n C hl (kx := 1) rfl rfl dX12_shovels_1 ?_
  refine r_i2l C dX12_shovels_2 ?_
  refine r_iload_n C hl (kx := 2) rfl rfl dX12_shovels_3 ?_
  obtain ⟨r2, μ1, e3, hf⟩ := bn_some hf
  refine r_callVv C hw (K := [(1, (nrm x1)), (0, x2)]) ok12 t0 (c_X12_whyRut l D b t0 e3) mi_X12_whyRut in_X12_whyRut se_X12_whyRut kl_12_255 rfl rfl (lvh_sz hl) (by decide) (Kr := []) rfl (Nat.le_of_ble_eq_true rfl) dX12_shovels_4 (fun H locs hw => ?_)
  refine r_istore_n C hl (by decide) (L' := [(3, 0, r2), (0, 2, x0), (1, 0, x1), (2, 0, x2)]) rfl rfl dX12_shovels_7 (fun ls hl => ?_)
  refine r_iload_n C hl (kx := 0) rfl rfl dX12_shovels_8 ?_
  refine r_if_eq C (tgt := 17) (by decide) dX12_shovels_9 (fun c4 => ?_) (fun c4 => ?_)
  · have hf := ite_t c4 hf
    refine r_aload_n C hl (kx := 1) rfl rfl dX12_shovels_17 ?_
    obtain ⟨r6, μ5, e7, hf⟩ := bn_some hf
    refine r_callVn C hw (K := []) ok12 t0 (c_X12_stores l D b t0 e7) mi_X12_stores in_X12_stores se_X12_stores kl_12_246 rfl rfl (lvh_sz hl) (by decide) (Kr := []) rfl (Nat.le_of_ble_eq_true rfl) dX12_shovels_18 (fun H locs hw => ?_)
    refine r_aload_n C hl (kx := 1) rfl rfl dX12_shovels_21 ?_
    refine gf_12_13 C hw t0 dX12_shovels_22 ?_
    refine r_bipush C (by decide) dX12_shovels_25 ?_
    refine r_iload_n C hl (kx := 2) rfl rfl dX12_shovels_27 ?_
    refine r_iadd C dX12_shovels_28 ?_
    refine r_dup2 C rfl (rfv_cat _ _) dX12_shovels_29 ?_
    obtain ⟨g8, hf⟩ := gd_some hf
    refine r_iald C hw (n := 3300) (ow_12_1 t0) (j := (nrm (56 + x1))) rfl g8 (by decide) dX12_shovels_30 ?_
    refine r_iload_n C hl (kx := 3) rfl rfl dX12_shovels_31 ?_
    refine r_iadd C dX12_shovels_32 ?_
    obtain ⟨g11, hf⟩ := gd_some hf
    obtain ⟨μ9, e10, hf⟩ := nm_some hf
    refine r_iast C hw (n := 3300) (ow_12_1 t0) (j := (nrm (56 + x1))) rfl g11 (by decide) dX12_shovels_33 (fun H locs hw => ?_)
    rw [← e10] at hw
    refine r_aload_n C hl (kx := 1) rfl rfl dX12_shovels_34 ?_
    obtain ⟨r13, μ12, e14, hf⟩ := bn_some hf
    refine r_callVn C hw (K := []) ok12 t0 (c_X12_notes l D b t0 e14) mi_X12_notes in_X12_notes se_X12_notes kl_12_252 rfl rfl (lvh_sz hl) (by decide) (Kr := []) rfl (Nat.le_of_ble_eq_true rfl) dX12_shovels_35 (fun H locs hw => ?_)
    refine r_aload_n C hl (kx := 1) rfl rfl dX12_shovels_38 ?_
    refine gf_12_13 C hw t0 dX12_shovels_39 ?_
    refine r_bipush C (by decide) dX12_shovels_42 ?_
    refine r_iload_n C hl (kx := 2) rfl rfl dX12_shovels_44 ?_
    refine r_iadd C dX12_shovels_45 ?_
    obtain ⟨g15, hf⟩ := gd_some hf
    refine r_iald C hw (n := 3300) (ow_12_1 t0) (j := (nrm (56 + x1))) rfl g15 (by decide) dX12_shovels_46 ?_
    exact r_iret C hw hf dX12_shovels_47
  · have hf := ite_f c4 hf
    refine r_bipush C (by decide) dX12_shovels_12 ?_
    refine r_iload_n C hl (kx := 0) rfl rfl dX12_shovels_14 ?_
    refine r_isub C dX12_shovels_15 ?_
    exact r_iret C hw hf dX12_shovels_16
theorem c_X12_shovels (l : Launch) (D : Ds) (b : Nat) {x0 x1 x2 : Int} {μ μ' : Mem} {r : Int} (t0 : isK x0 12) (hf : f_X12_shovels x0 x1 x2 μ = some (r, μ')) : Ctr l D b yX12_shovels cX12_shovels 4 (some .int) 3 [(2, x0), (0, x1), (0, x2)] μ (some (.int (jI r))) μ' := by
  refine Ctr.of (by decide +kernel) (Nat.le_of_ble_eq_true rfl) ?_
  intro p e s m below meth c C hw ls hl
  exact w_X12_shovels_0 C hf t0 hw hl
set_option maxHeartbeats 4000000 in
set_option maxRecDepth 20000 in
theorem w_X12_fill_0 (C : Cx p s m args meth c D b cX12_fill 2 RX12 (some .int)) {r : Int} {μ' : Mem} {x0 x1 : Int} {μ : Mem} {H : Heap} {locs : List Loc} {ls : Array Slot} (hf : f_X12_fill x0 x1 μ = some (r, μ')) (t0 : isK x0 12) (hw : Hw D b μ s.heap H locs) (hl : lvh b ls 2 [(0, 2, x0), (1, 0, x1)]) : W p l e (rm 4) s m args below meth c H locs 0 0 (QM below args s D b (some (.int (jI r))) μ') (F0 m 0 ls []) := by
  unfold f_X12_fill at hf
  refine r_aload_n C hl (kx := 0) rfl rfl dX12_fill_0 ?_
  refine r_iconst C dX12_fill_1 ?_
  obtain ⟨μ1, e2, hf⟩ := nm_some hf
  refine pf_12_1 C hw t0 dX12_fill_2 (fun H locs hw => ?_)
  rw [← e2] at hw
  refine r_aload_n C hl (kx := 0) rfl rfl dX12_fill_5 ?_
  refine r_iload_n C hl (kx := 1) rfl rfl dX12_fill_6 ?_
  refine r_iconst C dX12_fill_7 ?_
  obtain ⟨r4, μ3, e5, hf⟩ := bn_some hf
  refine r_callVv C hw (K := [(0, x1), (0, (-1))]) ok12 t0 (c_X12_shovels l D b t0 e5) mi_X12_shovels in_X12_shovels se_X12_shovels kl_12_259 rfl rfl (lvh_sz hl) (by decide) (Kr := []) rfl (Nat.le_of_ble_eq_true rfl) dX12_fill_8 (fun H locs hw => ?_)
  exact r_iret C hw hf dX12_fill_11
theorem c_X12_fill (l : Launch) (D : Ds) (b : Nat) {x0 x1 : Int} {μ μ' : Mem} {r : Int} (t0 : isK x0 12) (hf : f_X12_fill x0 x1 μ = some (r, μ')) : Ctr l D b yX12_fill cX12_fill 2 (some .int) 4 [(2, x0), (0, x1)] μ (some (.int (jI r))) μ' := by
  refine Ctr.of (by decide +kernel) (Nat.le_of_ble_eq_true rfl) ?_
  intro p e s m below meth c C hw ls hl
  exact w_X12_fill_0 C hf t0 hw hl
set_option maxHeartbeats 4000000 in
set_option maxRecDepth 20000 in
theorem w_X12_dig_0 (C : Cx p s m args meth c D b cX12_dig 2 RX12 (some .int)) {r : Int} {μ' : Mem} {x0 x1 : Int} {μ : Mem} {H : Heap} {locs : List Loc} {ls : Array Slot} (hf : f_X12_dig x0 x1 μ = some (r, μ')) (t0 : isK x0 12) (hw : Hw D b μ s.heap H locs) (hl : lvh b ls 2 [(0, 2, x0), (1, 0, x1)]) : W p l e (rm 4) s m args below meth c H locs 0 0 (QM below args s D b (some (.int (jI r))) μ') (F0 m 0 ls []) := by
  unfold f_X12_dig at hf
  refine r_aload_n C hl (kx := 0) rfl rfl dX12_dig_0 ?_
  refine r_iconst C dX12_dig_1 ?_
  obtain ⟨μ1, e2, hf⟩ := nm_some hf
  refine pf_12_1 C hw t0 dX12_dig_2 (fun H locs hw => ?_)
  rw [← e2] at hw
  refine r_aload_n C hl (kx := 0) rfl rfl dX12_dig_5 ?_
  refine r_iload_n C hl (kx := 1) rfl rfl dX12_dig_6 ?_
  refine r_iconst C dX12_dig_7 ?_
  obtain ⟨r4, μ3, e5, hf⟩ := bn_some hf
  refine r_callVv C hw (K := [(0, x1), (0, 1)]) ok12 t0 (c_X12_shovels l D b t0 e5) mi_X12_shovels in_X12_shovels se_X12_shovels kl_12_259 rfl rfl (lvh_sz hl) (by decide) (Kr := []) rfl (Nat.le_of_ble_eq_true rfl) dX12_dig_8 (fun H locs hw => ?_)
  exact r_iret C hw hf dX12_dig_11
theorem c_X12_dig (l : Launch) (D : Ds) (b : Nat) {x0 x1 : Int} {μ μ' : Mem} {r : Int} (t0 : isK x0 12) (hf : f_X12_dig x0 x1 μ = some (r, μ')) : Ctr l D b yX12_dig cX12_dig 2 (some .int) 4 [(2, x0), (0, x1)] μ (some (.int (jI r))) μ' := by
  refine Ctr.of (by decide +kernel) (Nat.le_of_ble_eq_true rfl) ?_
  intro p e s m below meth c C hw ls hl
  exact w_X12_dig_0 C hf t0 hw hl
set_option maxHeartbeats 4000000 in
set_option maxRecDepth 20000 in
theorem w_X12_turn_0 (C : Cx p s m args meth c D b cX12_turn 2 RX12 (some .int)) {r : Int} {μ' : Mem} {x0 x1 : Int} {μ : Mem} {H : Heap} {locs : List Loc} {ls : Array Slot} (hf : f_X12_turn x0 x1 μ = some (r, μ')) (t0 : isK x0 12) (hw : Hw D b μ s.heap H locs) (hl : lvh b ls 2 [(0, 2, x0), (1, 0, x1)]) : W p l e (rm 2) s m args below meth c H locs 0 0 (QM below args s D b (some (.int (jI r))) μ') (F0 m 0 ls []) := by
  unfold f_X12_turn at hf
  refine r_aload_n C hl (kx := 0) rfl rfl dX12_turn_0 ?_
  refine r_iconst C dX12_turn_1 ?_
  obtain ⟨μ1, e2, hf⟩ := nm_some hf
  refine pf_12_1 C hw t0 dX12_turn_2 (fun H locs hw => ?_)
  rw [← e2] at hw
  refine r_aload_n C hl (kx := 0) rfl rfl dX12_turn_5 ?_
  refine r_iload_n C hl (kx := 1) rfl rfl dX12_turn_6 ?_
  refine r_i2l C dX12_turn_7 ?_
  obtain ⟨r4, μ3, e5, hf⟩ := bn_some hf
  refine r_callVv C hw (K := [(1, (nrm x1))]) ok12 t0 (c_X12_isPerson l D b t0 e5) mi_X12_isPerson in_X12_isPerson se_X12_isPerson kl_12_262 rfl rfl (lvh_sz hl) (by decide) (Kr := []) rfl (Nat.le_of_ble_eq_true rfl) dX12_turn_8 (fun H locs hw => ?_)
  refine r_if_ne C (tgt := 17) (by decide) dX12_turn_11 (fun c6 => ?_) (fun c6 => ?_)
  · have hf := ite_f c6 hf
    refine r_aload_n C hl (kx := 0) rfl rfl dX12_turn_17 ?_
    obtain ⟨r8, μ7, e9, hf⟩ := bn_some hf
    refine r_callVn C hw (K := []) ok12 t0 (c_X12_stores l D b t0 e9) mi_X12_stores in_X12_stores se_X12_stores kl_12_246 rfl rfl (lvh_sz hl) (by decide) (Kr := []) rfl (Nat.le_of_ble_eq_true rfl) dX12_turn_18 (fun H locs hw => ?_)
    refine r_aload_n C hl (kx := 0) rfl rfl dX12_turn_21 ?_
    refine gf_12_13 C hw t0 dX12_turn_22 ?_
    refine r_bipush C (by decide) dX12_turn_25 ?_
    refine r_dup2 C rfl (rfv_cat _ _) dX12_turn_27 ?_
    refine r_iald C hw (n := 3300) (ow_12_1 t0) (j := 65) (by decide) (by decide) (by decide) dX12_turn_28 ?_
    refine r_iconst C dX12_turn_29 ?_
    refine r_iload_n C hl (kx := 1) rfl rfl dX12_turn_30 ?_
    refine r_ishl C dX12_turn_31 ?_
    refine r_ixor C dX12_turn_32 ?_
    obtain ⟨μ10, e11, hf⟩ := nm_some hf
    refine r_iast C hw (n := 3300) (ow_12_1 t0) (j := 65) (by decide) (by decide) (by decide) dX12_turn_33 (fun H locs hw => ?_)
    rw [← e11] at hw
    refine r_aload_n C hl (kx := 0) rfl rfl dX12_turn_34 ?_
    obtain ⟨r13, μ12, e14, hf⟩ := bn_some hf
    refine r_callVn C hw (K := []) ok12 t0 (c_X12_notes l D b t0 e14) mi_X12_notes in_X12_notes se_X12_notes kl_12_252 rfl rfl (lvh_sz hl) (by decide) (Kr := []) rfl (Nat.le_of_ble_eq_true rfl) dX12_turn_35 (fun H locs hw => ?_)
    refine r_aload_n C hl (kx := 0) rfl rfl dX12_turn_38 ?_
    refine gf_12_13 C hw t0 dX12_turn_39 ?_
    refine r_bipush C (by decide) dX12_turn_42 ?_
    refine r_iald C hw (n := 3300) (ow_12_1 t0) (j := 65) (by decide) (by decide) (by decide) dX12_turn_44 ?_
    refine r_iload_n C hl (kx := 1) rfl rfl dX12_turn_45 ?_
    refine r_ishr C dX12_turn_46 ?_
    refine r_iconst C dX12_turn_47 ?_
    refine r_iand C dX12_turn_48 ?_
    exact r_iret C hw hf dX12_turn_49
  · have hf := ite_t c6 hf
    refine r_bipush C (by decide) dX12_turn_14 ?_
    exact r_iret C hw hf dX12_turn_16
theorem c_X12_turn (l : Launch) (D : Ds) (b : Nat) {x0 x1 : Int} {μ μ' : Mem} {r : Int} (t0 : isK x0 12) (hf : f_X12_turn x0 x1 μ = some (r, μ')) : Ctr l D b yX12_turn cX12_turn 2 (some .int) 2 [(2, x0), (0, x1)] μ (some (.int (jI r))) μ' := by
  refine Ctr.of (by decide +kernel) (Nat.le_of_ble_eq_true rfl) ?_
  intro p e s m below meth c C hw ls hl
  exact w_X12_turn_0 C hf t0 hw hl
set_option maxHeartbeats 4000000 in
set_option maxRecDepth 20000 in
theorem w_X12_seasonTo_38 (C : Cx p s m args meth c D b cX12_seasonTo 4 RX12 (some .int)) {r : Int} {μ' : Mem} (k4 : Int → Int → Int → Int → Mem → Option (Int × Mem)) (h4 : ∀ (x0 x1 x2 x3 : Int) (μ : Mem) (H : Heap) (locs : List Loc) (ls : Array Slot), k4 x0 x1 x2 x3 μ = some (r, μ') → isK x0 12 → Hw D b μ s.heap H locs → lvh b ls 4 [(0, 2, x0), (1, 0, x1), (2, 0, x2), (3, 0, x3)] → W p l e (rm 1) s m args below meth c H locs 0 0 (QM below args s D b (some (.int (jI r))) μ') (F0 m 4 ls [])) {x0 x1 x3 s0 s1 : Int} {μ : Mem} {H : Heap} {locs : List Loc} {ls : Array Slot} (hf : f_X12_seasonTo_j38 k4 x0 x1 x3 s0 s1 μ = some (r, μ')) (t0 : isK x0 12) (hw : Hw D b μ s.heap H locs) (hl : lvh b ls 4 [(0, 2, x0), (1, 0, x1), (3, 0, x3)]) : W p l e (rm 1) s m args below meth c H locs 0 0 (QM below args s D b (some (.int (jI r))) μ') (F0 m 38 ls [.int (jI s1), .int (jI s0)]) := by
  unfold f_X12_seasonTo_j38 at hf
  refine r_ior C dX12_seasonTo_38 ?_
  obtain ⟨v1, e2, hf⟩ := nm_some hf
  refine top_i e2 ?_
  refine r_istore_n C hl (by decide) (L' := [(2, 0, v1), (0, 2, x0), (1, 0, x1), (3, 0, x3)]) rfl rfl dX12_seasonTo_39 (fun ls hl => ?_)
  refine r_iinc C hl (kx := 3) rfl (by decide) (L' := [(3, 0, (x3 + 1)), (2, 0, v1), (0, 2, x0), (1, 0, x1)]) rfl dX12_seasonTo_40 (fun ls hl => ?_)
  refine r_goto C (tgt := 4) (by decide) dX12_seasonTo_43 ?_
  exact h4 _ _ _ _ _ _ _ _ hf t0 hw (lvh_sub hl [2, 3, 1, 0] rfl)
set_option maxHeartbeats 4000000 in
set_option maxRecDepth 20000 in
theorem w_X12_seasonTo_4 (C : Cx p s m args meth c D b cX12_seasonTo 4 RX12 (some .int)) {r : Int} {μ' : Mem} : ∀ (n : Nat) (x0 x1 x2 x3 : Int) (μ : Mem) (H : Heap) (locs : List Loc) (ls : Array Slot), f_X12_seasonTo_w4 n x0 x1 x2 x3 μ = some (r, μ') → isK x0 12 → Hw D b μ s.heap H locs → lvh b ls 4 [(0, 2, x0), (1, 0, x1), (2, 0, x2), (3, 0, x3)] → W p l e (rm 1) s m args below meth c H locs 0 0 (QM below args s D b (some (.int (jI r))) μ') (F0 m 4 ls []) := by
  intro n
  induction n with
  | zero => intro x0 x1 x2 x3 μ H locs ls hf; cases hf
  | succ n ih =>
    intro x0 x1 x2 x3 μ H locs ls hf t0 hw hl
    rw [f_X12_seasonTo_w4.eq_2] at hf
    refine r_iload_n C hl (kx := 3) rfl rfl dX12_seasonTo_4 ?_
    refine r_aload_n C hl (kx := 0) rfl rfl dX12_seasonTo_5 ?_
    refine gf_12_13 C hw t0 dX12_seasonTo_6 ?_
    refine r_iconst C dX12_seasonTo_9 ?_
    refine r_iald C hw (n := 3300) (ow_12_1 t0) (j := 3) (by decide) (by decide) (by decide) dX12_seasonTo_10 ?_
    refine r_icmp_ge C (tgt := 46) (by decide) dX12_seasonTo_11 (fun c1 => ?_) (fun c1 => ?_)
    · have hf := ite_t c1 hf
      refine r_iload_n C hl (kx := 2) rfl rfl dX12_seasonTo_46 ?_
      exact r_iret C hw hf dX12_seasonTo_47
    · have hf := ite_f c1 hf
      refine r_iload_n C hl (kx := 2) rfl rfl dX12_seasonTo_14 ?_
      refine r_iload_n C hl (kx := 1) rfl rfl dX12_seasonTo_15 ?_
      obtain ⟨r3, μ2, e4, hf⟩ := bn_some hf
      refine r_callSv C hw (K := [(0, x1)]) (c_X12_bitsOf l D b e4) mi_X12_bitsOf st_X12_bitsOf kl_12_212 rfl rfl (lvh_sz hl) (by decide) (Kr := [(0, x2)]) rfl (Nat.le_of_ble_eq_true rfl) dX12_seasonTo_16 (fun H locs hw => ?_)
      refine r_aload_n C hl (kx := 0) rfl rfl dX12_seasonTo_19 ?_
      refine gf_12_13 C hw t0 dX12_seasonTo_20 ?_
      refine r_bipush C (by decide) dX12_seasonTo_23 ?_
      refine r_iload_n C hl (kx := 3) rfl rfl dX12_seasonTo_25 ?_
      refine r_iadd C dX12_seasonTo_26 ?_
      obtain ⟨g5, hf⟩ := gd_some hf
      refine r_iald C hw (n := 3300) (ow_12_1 t0) (j := (nrm (47 + x3))) rfl g5 (by decide) dX12_seasonTo_27 ?_
      refine r_icmp_lt C (tgt := 37) (by decide) dX12_seasonTo_28 (fun c6 => ?_) (fun c6 => ?_)
      · have hf := ite_t c6 hf
        refine r_iconst C dX12_seasonTo_37 ?_
        exact w_X12_seasonTo_38 C _ ih hf t0 hw (lvh_sub hl [0, 1, 3] rfl)
      · have hf := ite_f c6 hf
        refine r_iconst C dX12_seasonTo_31 ?_
        refine r_iload_n C hl (kx := 3) rfl rfl dX12_seasonTo_32 ?_
        refine r_ishl C dX12_seasonTo_33 ?_
        refine r_goto C (tgt := 38) (by decide) dX12_seasonTo_34 ?_
        exact w_X12_seasonTo_38 C _ ih hf t0 hw (lvh_sub hl [0, 1, 3] rfl)
set_option maxHeartbeats 4000000 in
set_option maxRecDepth 20000 in
theorem w_X12_seasonTo_0 (C : Cx p s m args meth c D b cX12_seasonTo 4 RX12 (some .int)) {r : Int} {μ' : Mem} {x0 x1 : Int} {μ : Mem} {H : Heap} {locs : List Loc} {ls : Array Slot} (hf : f_X12_seasonTo x0 x1 μ = some (r, μ')) (t0 : isK x0 12) (hw : Hw D b μ s.heap H locs) (hl : lvh b ls 4 [(0, 2, x0), (1, 0, x1)]) : W p l e (rm 1) s m args below meth c H locs 0 0 (QM below args s D b (some (.int (jI r))) μ') (F0 m 0 ls []) := by
  unfold f_X12_seasonTo at hf
  refine r_iload_n C hl (kx := 1) rfl rfl dX12_seasonTo_0 ?_
  refine r_istore_n C hl (by decide) (L' := [(2, 0, x1), (0, 2, x0), (1, 0, x1)]) rfl rfl dX12_seasonTo_1 (fun ls hl => ?_)
  refine r_iconst C dX12_seasonTo_2 ?_
  refine r_istore_n C hl (by decide) (L' := [(3, 0, 0), (2, 0, x1), (0, 2, x0), (1, 0, x1)]) rfl rfl dX12_seasonTo_3 (fun ls hl => ?_)
  exact w_X12_seasonTo_4 C FU _ _ _ _ _ _ _ _ hf t0 hw (lvh_sub hl [2, 3, 1, 0] rfl)
theorem c_X12_seasonTo (l : Launch) (D : Ds) (b : Nat) {x0 x1 : Int} {μ μ' : Mem} {r : Int} (t0 : isK x0 12) (hf : f_X12_seasonTo x0 x1 μ = some (r, μ')) : Ctr l D b yX12_seasonTo cX12_seasonTo 4 (some .int) 1 [(2, x0), (0, x1)] μ (some (.int (jI r))) μ' := by
  refine Ctr.of (by decide +kernel) (Nat.le_of_ble_eq_true rfl) ?_
  intro p e s m below meth c C hw ls hl
  exact w_X12_seasonTo_0 C hf t0 hw hl
set_option maxHeartbeats 4000000 in
set_option maxRecDepth 20000 in
theorem w_X12_seasons_26 (C : Cx p s m args meth c D b cX12_seasons 3 RX12 (some .int)) {r : Int} {μ' : Mem} : ∀ (n : Nat) (x0 x1 x2 : Int) (μ : Mem) (H : Heap) (locs : List Loc) (ls : Array Slot), f_X12_seasons_w26 n x0 x1 x2 μ = some (r, μ') → isK x0 12 → Hw D b μ s.heap H locs → lvh b ls 3 [(0, 2, x0), (1, 0, x1), (2, 0, x2)] → W p l e (rm 2) s m args below meth c H locs 0 0 (QM below args s D b (some (.int (jI r))) μ') (F0 m 26 ls []) := by
  intro n
  induction n with
  | zero => intro x0 x1 x2 μ H locs ls hf; cases hf
  | succ n ih =>
    intro x0 x1 x2 μ H locs ls hf t0 hw hl
    rw [f_X12_seasons_w26.eq_2] at hf
    refine r_iload_n C hl (kx := 2) rfl rfl dX12_seasons_26 ?_
    refine r_iload_n C hl (kx := 1) rfl rfl dX12_seasons_27 ?_
    refine r_icmp_ge C (tgt := 55) (by decide) dX12_seasons_28 (fun c1 => ?_) (fun c1 => ?_)
    · have hf := ite_t c1 hf
      refine r_aload_n C hl (kx := 0) rfl rfl dX12_seasons_55 ?_
      obtain ⟨r3, μ2, e4, hf⟩ := bn_some hf
      refine r_callVn C hw (K := []) ok12 t0 (c_X12_notes l D b t0 e4) mi_X12_notes in_X12_notes se_X12_notes kl_12_252 rfl rfl (lvh_sz hl) (by decide) (Kr := []) rfl (Nat.le_of_ble_eq_true rfl) dX12_seasons_56 (fun H locs hw => ?_)
      refine r_aload_n C hl (kx := 0) rfl rfl dX12_seasons_59 ?_
      refine gf_12_13 C hw t0 dX12_seasons_60 ?_
      refine r_bipush C (by decide) dX12_seasons_63 ?_
      refine r_iald C hw (n := 3300) (ow_12_1 t0) (j := 65) (by decide) (by decide) (by decide) dX12_seasons_65 ?_
      obtain ⟨r6, μ5, e7, hf⟩ := bn_some hf
      refine r_callSv C hw (K := [(0, (μ2 (x0 + 1) 65))]) (c_X12_bitsOf l D b e7) mi_X12_bitsOf st_X12_bitsOf kl_12_212 rfl rfl (lvh_sz hl) (by decide) (Kr := []) rfl (Nat.le_of_ble_eq_true rfl) dX12_seasons_66 (fun H locs hw => ?_)
      exact r_iret C hw hf dX12_seasons_69
    · have hf := ite_f c1 hf
      refine r_aload_n C hl (kx := 0) rfl rfl dX12_seasons_31 ?_
      refine gf_12_13 C hw t0 dX12_seasons_32 ?_
      refine r_bipush C (by decide) dX12_seasons_35 ?_
      refine r_aload_n C hl (kx := 0) rfl rfl dX12_seasons_37 ?_
      refine r_aload_n C hl (kx := 0) rfl rfl dX12_seasons_38 ?_
      refine gf_12_13 C hw t0 dX12_seasons_39 ?_
      refine r_bipush C (by decide) dX12_seasons_42 ?_
      refine r_iald C hw (n := 3300) (ow_12_1 t0) (j := 65) (by decide) (by decide) (by decide) dX12_seasons_44 ?_
      obtain ⟨r9, μ8, e10, hf⟩ := bn_some hf
      refine r_callVv C hw (K := [(0, (μ (x0 + 1) 65))]) ok12 t0 (c_X12_seasonTo l D b t0 e10) mi_X12_seasonTo in_X12_seasonTo se_X12_seasonTo kl_12_267 rfl rfl (lvh_sz hl) (by decide) (Kr := [(0, 65), (2, (x0 + 1))]) rfl (Nat.le_of_ble_eq_true rfl) dX12_seasons_45 (fun H locs hw => ?_)
      obtain ⟨μ11, e12, hf⟩ := nm_some hf
      refine r_iast C hw (n := 3300) (ow_12_1 t0) (j := 65) (by decide) (by decide) (by decide) dX12_seasons_48 (fun H locs hw => ?_)
      rw [← e12] at hw
      refine r_iinc C hl (kx := 2) rfl (by decide) (L' := [(2, 0, (x2 + 1)), (0, 2, x0), (1, 0, x1)]) rfl dX12_seasons_49 (fun ls hl => ?_)
      refine r_goto C (tgt := 26) (by decide) dX12_seasons_52 ?_
      exact ih _ _ _ _ _ _ _ hf t0 hw (lvh_sub hl [1, 2, 0] rfl)
set_option maxHeartbeats 4000000 in
set_option maxRecDepth 20000 in
theorem w_X12_seasons_0 (C : Cx p s m args meth c D b cX12_seasons 3 RX12 (some .int)) {r : Int} {μ' : Mem} {x0 x1 : Int} {μ : Mem} {H : Heap} {locs : List Loc} {ls : Array Slot} (hf : f_X12_seasons x0 x1 μ = some (r, μ')) (t0 : isK x0 12) (hw : Hw D b μ s.heap H locs) (hl : lvh b ls 3 [(0, 2, x0), (1, 0, x1)]) : W p l e (rm 2) s m args below meth c H locs 0 0 (QM below args s D b (some (.int (jI r))) μ') (F0 m 0 ls []) := by
  unfold f_X12_seasons at hf
  refine r_aload_n C hl (kx := 0) rfl rfl dX12_seasons_0 ?_
  refine r_iconst C dX12_seasons_1 ?_
  obtain ⟨μ1, e2, hf⟩ := nm_some hf
  refine pf_12_1 C hw t0 dX12_seasons_2 (fun H locs hw => ?_)
  rw [← e2] at hw
  refine r_iload_n C hl (kx := 1) rfl rfl dX12_seasons_5 ?_
  refine r_i2l C dX12_seasons_6 ?_
  refine r_lconst C (z := 1) (by decide) dX12_seasons_7 ?_
  refine r_ldc2 C (z := 99) (by decide) kw1677 dX12_seasons_8 ?_
  obtain ⟨r4, μ3, e5, hf⟩ := bn_some hf
  refine r_callSv C hw (K := [(1, (nrm x1)), (1, 1), (1, 99)]) (c_X12_within l D b e5) mi_X12_within st_X12_within kl_12_136 rfl rfl (lvh_sz hl) (by decide) (Kr := []) rfl (Nat.le_of_ble_eq_true rfl) dX12_seasons_11 (fun H locs hw => ?_)
  refine r_if_ne C (tgt := 20) (by decide) dX12_seasons_14 (fun c6 => ?_) (fun c6 => ?_)
  · have hf := ite_f c6 hf
    refine r_aload_n C hl (kx := 0) rfl rfl dX12_seasons_20 ?_
    obtain ⟨r8, μ7, e9, hf⟩ := bn_some hf
    refine r_callVn C hw (K := []) ok12 t0 (c_X12_stores l D b t0 e9) mi_X12_stores in_X12_stores se_X12_stores kl_12_246 rfl rfl (lvh_sz hl) (by decide) (Kr := []) rfl (Nat.le_of_ble_eq_true rfl) dX12_seasons_21 (fun H locs hw => ?_)
    refine r_iconst C dX12_seasons_24 ?_
    refine r_istore_n C hl (by decide) (L' := [(2, 0, 0), (0, 2, x0), (1, 0, x1)]) rfl rfl dX12_seasons_25 (fun ls hl => ?_)
    exact w_X12_seasons_26 C FU _ _ _ _ _ _ _ hf t0 hw (lvh_sub hl [1, 2, 0] rfl)
  · have hf := ite_t c6 hf
    refine r_bipush C (by decide) dX12_seasons_17 ?_
    exact r_iret C hw hf dX12_seasons_19
theorem c_X12_seasons (l : Launch) (D : Ds) (b : Nat) {x0 x1 : Int} {μ μ' : Mem} {r : Int} (t0 : isK x0 12) (hf : f_X12_seasons x0 x1 μ = some (r, μ')) : Ctr l D b yX12_seasons cX12_seasons 3 (some .int) 2 [(2, x0), (0, x1)] μ (some (.int (jI r))) μ' := by
  refine Ctr.of (by decide +kernel) (Nat.le_of_ble_eq_true rfl) ?_
  intro p e s m below meth c C hw ls hl
  exact w_X12_seasons_0 C hf t0 hw hl
set_option maxHeartbeats 4000000 in
set_option maxRecDepth 20000 in
theorem w_X12_rain_0 (C : Cx p s m args meth c D b cX12_rain 2 RX12 (some .int)) {r : Int} {μ' : Mem} {x0 x1 : Int} {μ : Mem} {H : Heap} {locs : List Loc} {ls : Array Slot} (hf : f_X12_rain x0 x1 μ = some (r, μ')) (t0 : isK x0 12) (hw : Hw D b μ s.heap H locs) (hl : lvh b ls 2 [(0, 2, x0), (1, 0, x1)]) : W p l e (rm 1) s m args below meth c H locs 0 0 (QM below args s D b (some (.int (jI r))) μ') (F0 m 0 ls []) := by
  unfold f_X12_rain at hf
  refine r_aload_n C hl (kx := 0) rfl rfl dX12_rain_0 ?_
  refine r_iconst C dX12_rain_1 ?_
  obtain ⟨μ1, e2, hf⟩ := nm_some hf
  refine pf_12_1 C hw t0 dX12_rain_2 (fun H locs hw => ?_)
  rw [← e2] at hw
  refine r_iload_n C hl (kx := 1) rfl rfl dX12_rain_5 ?_
  refine r_i2l C dX12_rain_6 ?_
  refine r_lconst C (z := 0) (by decide) dX12_rain_7 ?_
  refine r_ldc2 C (z := 9) (by decide) kw1686 dX12_rain_8 ?_
  obtain ⟨r4, μ3, e5, hf⟩ := bn_some hf
  refine r_callSv C hw (K := [(1, (nrm x1)), (1, 0), (1, 9)]) (c_X12_within l D b e5) mi_X12_within st_X12_within kl_12_136 rfl rfl (lvh_sz hl) (by decide) (Kr := []) rfl (Nat.le_of_ble_eq_true rfl) dX12_rain_11 (fun H locs hw => ?_)
  refine r_if_ne C (tgt := 20) (by decide) dX12_rain_14 (fun c6 => ?_) (fun c6 => ?_)
  · have hf := ite_f c6 hf
    refine r_aload_n C hl (kx := 0) rfl rfl dX12_rain_20 ?_
    obtain ⟨r8, μ7, e9, hf⟩ := bn_some hf
    refine r_callVn C hw (K := []) ok12 t0 (c_X12_stores l D b t0 e9) mi_X12_stores in_X12_stores se_X12_stores kl_12_246 rfl rfl (lvh_sz hl) (by decide) (Kr := []) rfl (Nat.le_of_ble_eq_true rfl) dX12_rain_21 (fun H locs hw => ?_)
    refine r_aload_n C hl (kx := 0) rfl rfl dX12_rain_24 ?_
    refine gf_12_13 C hw t0 dX12_rain_25 ?_
    refine r_bipush C (by decide) dX12_rain_28 ?_
    refine r_iload_n C hl (kx := 1) rfl rfl dX12_rain_30 ?_
    obtain ⟨μ10, e11, hf⟩ := nm_some hf
    refine r_iast C hw (n := 3300) (ow_12_1 t0) (j := 66) (by decide) (by decide) (by decide) dX12_rain_31 (fun H locs hw => ?_)
    rw [← e11] at hw
    refine r_aload_n C hl (kx := 0) rfl rfl dX12_rain_32 ?_
    obtain ⟨r13, μ12, e14, hf⟩ := bn_some hf
    refine r_callVn C hw (K := []) ok12 t0 (c_X12_notes l D b t0 e14) mi_X12_notes in_X12_notes se_X12_notes kl_12_252 rfl rfl (lvh_sz hl) (by decide) (Kr := []) rfl (Nat.le_of_ble_eq_true rfl) dX12_rain_33 (fun H locs hw => ?_)
    refine r_aload_n C hl (kx := 0) rfl rfl dX12_rain_36 ?_
    refine gf_12_36 C hw t0 dX12_rain_37 ?_
    refine r_bipush C (by decide) dX12_rain_40 ?_
    refine r_iald C hw (n := 13) (ow_12_18 t0) (j := 11) (by decide) (by decide) (by decide) dX12_rain_42 ?_
    exact r_iret C hw hf dX12_rain_43
  · have hf := ite_t c6 hf
    refine r_bipush C (by decide) dX12_rain_17 ?_
    exact r_iret C hw hf dX12_rain_19
theorem c_X12_rain (l : Launch) (D : Ds) (b : Nat) {x0 x1 : Int} {μ μ' : Mem} {r : Int} (t0 : isK x0 12) (hf : f_X12_rain x0 x1 μ = some (r, μ')) : Ctr l D b yX12_rain cX12_rain 2 (some .int) 1 [(2, x0), (0, x1)] μ (some (.int (jI r))) μ' := by
  refine Ctr.of (by decide +kernel) (Nat.le_of_ble_eq_true rfl) ?_
  intro p e s m below meth c C hw ls hl
  exact w_X12_rain_0 C hf t0 hw hl
set_option maxHeartbeats 4000000 in
set_option maxRecDepth 20000 in
theorem w_X12_undo_44 (C : Cx p s m args meth c D b cX12_undo 3 RX12 (some .int)) {r : Int} {μ' : Mem} : ∀ (n : Nat) (x0 x2 : Int) (μ : Mem) (H : Heap) (locs : List Loc) (ls : Array Slot), f_X12_undo_w44 n x0 x2 μ = some (r, μ') → isK x0 12 → Hw D b μ s.heap H locs → lvh b ls 3 [(0, 2, x0), (2, 0, x2)] → W p l e (rm 1) s m args below meth c H locs 0 0 (QM below args s D b (some (.int (jI r))) μ') (F0 m 44 ls []) := by
  intro n
  induction n with
  | zero => intro x0 x2 μ H locs ls hf; cases hf
  | succ n ih =>
    intro x0 x2 μ H locs ls hf t0 hw hl
    rw [f_X12_undo_w44.eq_2] at hf
    refine r_iload_n C hl (kx := 1) rfl rfl dX12_undo_44 ?_
    refine r_bipush C (by decide) dX12_undo_45 ?_
    refine r_icmp_ge C (tgt := 85) (by decide) dX12_undo_47 (fun c1 => ?_) (fun c1 => ?_)
    · have hf := ite_t c1 hf
      refine r_aload_n C hl (kx := 0) rfl rfl dX12_undo_85 ?_
      refine gf_12_13 C hw t0 dX12_undo_86 ?_
      refine r_bipush C (by decide) dX12_undo_89 ?_
      refine r_iald C hw (n := 3300) (ow_12_1 t0) (j := 68) (by decide) (by decide) (by decide) dX12_undo_91 ?_
      exact r_iret C hw hf dX12_undo_92
    · have hf := ite_f c1 hf
      refine r_aload_n C hl (kx := 0) rfl rfl dX12_undo_50 ?_
      refine gf_12_13 C hw t0 dX12_undo_51 ?_
      refine r_bipush C (by decide) dX12_undo_54 ?_
      refine r_iload_n C hl (kx := 1) rfl rfl dX12_undo_56 ?_
      refine r_iadd C dX12_undo_57 ?_
      refine r_aload_n C hl (kx := 0) rfl rfl dX12_undo_58 ?_
      refine gf_12_13 C hw t0 dX12_undo_59 ?_
      refine r_bipush C (by decide) dX12_undo_62 ?_
      refine r_bipush C (by decide) dX12_undo_64 ?_
      refine r_aload_n C hl (kx := 0) rfl rfl dX12_undo_66 ?_
      refine gf_12_13 C hw t0 dX12_undo_67 ?_
      refine r_bipush C (by decide) dX12_undo_70 ?_
      refine r_iald C hw (n := 3300) (ow_12_1 t0) (j := 68) (by decide) (by decide) (by decide) dX12_undo_72 ?_
      refine r_imul C dX12_undo_73 ?_
      refine r_iadd C dX12_undo_74 ?_
      refine r_iload_n C hl (kx := 1) rfl rfl dX12_undo_75 ?_
      refine r_iadd C dX12_undo_76 ?_
      obtain ⟨g2, hf⟩ := gd_some hf
      refine r_iald C hw (n := 3300) (ow_12_1 t0) (j := (nrm ((69 + (13 * (μ (x0 + 1) 68))) + x2))) rfl g2 (by decide) dX12_undo_77 ?_
      obtain ⟨g5, hf⟩ := gd_some hf
      obtain ⟨μ3, e4, hf⟩ := nm_some hf
      refine r_iast C hw (n := 3300) (ow_12_1 t0) (j := (nrm (55 + x2))) rfl g5 (by decide) dX12_undo_78 (fun H locs hw => ?_)
      rw [← e4] at hw
      refine r_iinc C hl (kx := 1) rfl (by decide) (L' := [(2, 0, (x2 + 1)), (0, 2, x0)]) rfl dX12_undo_79 (fun ls hl => ?_)
      refine r_goto C (tgt := 44) (by decide) dX12_undo_82 ?_
      exact ih _ _ _ _ _ _ hf t0 hw (lvh_sub hl [1, 0] rfl)
set_option maxHeartbeats 4000000 in
set_option maxRecDepth 20000 in
theorem w_X12_undo_0 (C : Cx p s m args meth c D b cX12_undo 3 RX12 (some .int)) {r : Int} {μ' : Mem} {x0 x1 : Int} {μ : Mem} {H : Heap} {locs : List Loc} {ls : Array Slot} (hf : f_X12_undo x0 x1 μ = some (r, μ')) (t0 : isK x0 12) (hw : Hw D b μ s.heap H locs) (hl : lvh b ls 3 [(0, 2, x0), (1, 0, x1)]) : W p l e (rm 1) s m args below meth c H locs 0 0 (QM below args s D b (some (.int (jI r))) μ') (F0 m 0 ls []) := by
  unfold f_X12_undo at hf
  refine r_aload_n C hl (kx := 0) rfl rfl dX12_undo_0 ?_
  refine r_iconst C dX12_undo_1 ?_
  obtain ⟨μ1, e2, hf⟩ := nm_some hf
  refine pf_12_1 C hw t0 dX12_undo_2 (fun H locs hw => ?_)
  rw [← e2] at hw
  refine r_iload_n C hl (kx := 1) rfl rfl dX12_undo_5 ?_
  refine r_i2l C dX12_undo_6 ?_
  refine r_lconst C (z := 1) (by decide) dX12_undo_7 ?_
  refine r_ldc2 C (z := 10) (by decide) kw1691 dX12_undo_8 ?_
  obtain ⟨r4, μ3, e5, hf⟩ := bn_some hf
  refine r_callSv C hw (K := [(1, (nrm x1)), (1, 1), (1, 10)]) (c_X12_within l D b e5) mi_X12_within st_X12_within kl_12_136 rfl rfl (lvh_sz hl) (by decide) (Kr := []) rfl (Nat.le_of_ble_eq_true rfl) dX12_undo_11 (fun H locs hw => ?_)
  refine r_if_eq C (tgt := 28) (by decide) dX12_undo_14 (fun c6 => ?_) (fun c6 => ?_)
  · have hf := ite_t c6 hf
    refine r_bipush C (by decide) dX12_undo_28 ?_
    exact r_iret C hw hf dX12_undo_30
  · have hf := ite_f c6 hf
    refine r_iload_n C hl (kx := 1) rfl rfl dX12_undo_17 ?_
    refine r_aload_n C hl (kx := 0) rfl rfl dX12_undo_18 ?_
    refine gf_12_13 C hw t0 dX12_undo_19 ?_
    refine r_bipush C (by decide) dX12_undo_22 ?_
    refine r_iald C hw (n := 3300) (ow_12_1 t0) (j := 68) (by decide) (by decide) (by decide) dX12_undo_24 ?_
    refine r_icmp_le C (tgt := 31) (by decide) dX12_undo_25 (fun c7 => ?_) (fun c7 => ?_)
    · have hf := ite_t c7 hf
      refine r_aload_n C hl (kx := 0) rfl rfl dX12_undo_31 ?_
      refine gf_12_13 C hw t0 dX12_undo_32 ?_
      refine r_bipush C (by decide) dX12_undo_35 ?_
      refine r_dup2 C rfl (rfv_cat _ _) dX12_undo_37 ?_
      refine r_iald C hw (n := 3300) (ow_12_1 t0) (j := 68) (by decide) (by decide) (by decide) dX12_undo_38 ?_
      refine r_iload_n C hl (kx := 1) rfl rfl dX12_undo_39 ?_
      refine r_isub C dX12_undo_40 ?_
      obtain ⟨μ8, e9, hf⟩ := nm_some hf
      refine r_iast C hw (n := 3300) (ow_12_1 t0) (j := 68) (by decide) (by decide) (by decide) dX12_undo_41 (fun H locs hw => ?_)
      rw [← e9] at hw
      refine r_iconst C dX12_undo_42 ?_
      refine r_istore_n C hl (by decide) (L' := [(2, 0, 0), (0, 2, x0), (1, 0, x1)]) rfl rfl dX12_undo_43 (fun ls hl => ?_)
      exact w_X12_undo_44 C FU _ _ _ _ _ _ hf t0 hw (lvh_sub hl [1, 0] rfl)
    · have hf := ite_f c7 hf
      refine r_bipush C (by decide) dX12_undo_28 ?_
      exact r_iret C hw hf dX12_undo_30
theorem c_X12_undo (l : Launch) (D : Ds) (b : Nat) {x0 x1 : Int} {μ μ' : Mem} {r : Int} (t0 : isK x0 12) (hf : f_X12_undo x0 x1 μ = some (r, μ')) : Ctr l D b yX12_undo cX12_undo 3 (some .int) 1 [(2, x0), (0, x1)] μ (some (.int (jI r))) μ' := by
  refine Ctr.of (by decide +kernel) (Nat.le_of_ble_eq_true rfl) ?_
  intro p e s m below meth c C hw ls hl
  exact w_X12_undo_0 C hf t0 hw hl
set_option maxHeartbeats 4000000 in
set_option maxRecDepth 20000 in
theorem w_X12_whyNot_49 (C : Cx p s m args meth c D b cX12_whyNot 3 RX12 (some .int)) {r : Int} {μ' : Mem} {s0 s1 s2 : Int} {μ : Mem} {H : Heap} {locs : List Loc} {ls : Array Slot} (hf : f_X12_whyNot_j49 s0 s1 s2 μ = some (r, μ')) (hw : Hw D b μ s.heap H locs) (hl : lvh b ls 3 []) : W p l e (rm 5) s m args below meth c H locs 0 0 (QM below args s D b (some (.int (jI r))) μ') (F0 m 49 ls [.int (jI s2), .long (jL s1), rfv b s0]) := by
  unfold f_X12_whyNot_j49 at hf
  obtain ⟨g1, hf⟩ := gd_some hf
  obtain ⟨r3, μ2, e4, hf⟩ := bn_some hf
  refine r_callVv C hw (K := [(1, s1), (0, s2)]) ok12 g1 (c_X12_whyRut l D b g1 e4) mi_X12_whyRut in_X12_whyRut se_X12_whyRut kl_12_255 rfl rfl (lvh_sz hl) (by decide) (Kr := []) rfl (Nat.le_of_ble_eq_true rfl) dX12_whyNot_49 (fun H locs hw => ?_)
  exact r_iret C hw hf dX12_whyNot_52
set_option maxHeartbeats 4000000 in
set_option maxRecDepth 20000 in
theorem w_X12_whyNot_0 (C : Cx p s m args meth c D b cX12_whyNot 3 RX12 (some .int)) {r : Int} {μ' : Mem} {x0 x1 : Int} {μ : Mem} {H : Heap} {locs : List Loc} {ls : Array Slot} (hf : f_X12_whyNot x0 x1 μ = some (r, μ')) (t0 : isK x0 12) (hw : Hw D b μ s.heap H locs) (hl : lvh b ls 3 [(0, 2, x0), (1, 1, x1)]) : W p l e (rm 5) s m args below meth c H locs 0 0 (QM below args s D b (some (.int (jI r))) μ') (F0 m 0 ls []) := by
  unfold f_X12_whyNot at hf
  refine r_lload_n C hl (kx := 1) rfl rfl dX12_whyNot_0 ?_
  refine r_lconst C (z := 0) (by decide) dX12_whyNot_1 ?_
  refine r_ldc2 C (z := 9) (by decide) kw1686 dX12_whyNot_2 ?_
  obtain ⟨r2, μ1, e3, hf⟩ := bn_some hf
  refine r_callSv C hw (K := [(1, x1), (1, 0), (1, 9)]) (c_X12_within l D b e3) mi_X12_within st_X12_within kl_12_136 rfl rfl (lvh_sz hl) (by decide) (Kr := []) rfl (Nat.le_of_ble_eq_true rfl) dX12_whyNot_5 (fun H locs hw => ?_)
  refine r_if_eq C (tgt := 17) (by decide) dX12_whyNot_8 (fun c4 => ?_) (fun c4 => ?_)
  · have hf := ite_t c4 hf
    refine r_lload_n C hl (kx := 1) rfl rfl dX12_whyNot_17 ?_
    refine r_ldc2 C (z := 10) (by decide) kw1691 dX12_whyNot_18 ?_
    refine r_ldc2 C (z := 29) (by decide) kw1709 dX12_whyNot_21 ?_
    obtain ⟨r6, μ5, e7, hf⟩ := bn_some hf
    refine r_callSv C hw (K := [(1, x1), (1, 10), (1, 29)]) (c_X12_within l D b e7) mi_X12_within st_X12_within kl_12_136 rfl rfl (lvh_sz hl) (by decide) (Kr := []) rfl (Nat.le_of_ble_eq_true rfl) dX12_whyNot_24 (fun H locs hw => ?_)
    refine r_if_eq C (tgt := 53) (by decide) dX12_whyNot_27 (fun c8 => ?_) (fun c8 => ?_)
    · have hf := ite_t c8 hf
      refine r_lload_n C hl (kx := 1) rfl rfl dX12_whyNot_53 ?_
      refine r_ldc2 C (z := 40) (by decide) kw1711 dX12_whyNot_54 ?_
      refine r_ldc2 C (z := 49) (by decide) kw1712 dX12_whyNot_57 ?_
      obtain ⟨r10, μ9, e11, hf⟩ := bn_some hf
      refine r_callSv C hw (K := [(1, x1), (1, 40), (1, 49)]) (c_X12_within l D b e11) mi_X12_within st_X12_within kl_12_136 rfl rfl (lvh_sz hl) (by decide) (Kr := []) rfl (Nat.le_of_ble_eq_true rfl) dX12_whyNot_60 (fun H locs hw => ?_)
      refine r_if_eq C (tgt := 84) (by decide) dX12_whyNot_63 (fun c12 => ?_) (fun c12 => ?_)
      · have hf := ite_t c12 hf
        refine r_lload_n C hl (kx := 1) rfl rfl dX12_whyNot_84 ?_
        refine r_ldc2 C (z := 30) (by decide) kw1713 dX12_whyNot_85 ?_
        refine r_ldc2 C (z := 39) (by decide) kw1714 dX12_whyNot_88 ?_
        obtain ⟨r14, μ13, e15, hf⟩ := bn_some hf
        refine r_callSv C hw (K := [(1, x1), (1, 30), (1, 39)]) (c_X12_within l D b e15) mi_X12_within st_X12_within kl_12_136 rfl rfl (lvh_sz hl) (by decide) (Kr := []) rfl (Nat.le_of_ble_eq_true rfl) dX12_whyNot_91 (fun H locs hw => ?_)
        refine r_if_ne C (tgt := 105) (by decide) dX12_whyNot_94 (fun c16 => ?_) (fun c16 => ?_)
        · have hf := ite_f c16 hf
          refine r_iconst C dX12_whyNot_105 ?_
          refine r_goto C (tgt := 110) (by decide) dX12_whyNot_106 ?_
          exact r_iret C hw hf dX12_whyNot_110
        · have hf := ite_t c16 hf
          refine r_lload_n C hl (kx := 1) rfl rfl dX12_whyNot_97 ?_
          refine r_ldc2 C (z := 50) (by decide) kw1715 dX12_whyNot_98 ?_
          refine r_lcmp C dX12_whyNot_101 ?_
          refine r_if_ne C (tgt := 109) (by decide) dX12_whyNot_102 (fun c17 => ?_) (fun c17 => ?_)
          · have hf := ite_f c17 hf
            refine r_iconst C dX12_whyNot_109 ?_
            exact r_iret C hw hf dX12_whyNot_110
          · have hf := ite_t c17 hf
            refine r_iconst C dX12_whyNot_105 ?_
            refine r_goto C (tgt := 110) (by decide) dX12_whyNot_106 ?_
            exact r_iret C hw hf dX12_whyNot_110
      · have hf := ite_f c12 hf
        refine r_aload_n C hl (kx := 0) rfl rfl dX12_whyNot_66 ?_
        refine r_lload_n C hl (kx := 1) rfl rfl dX12_whyNot_67 ?_
        refine r_ldc2 C (z := 40) (by decide) kw1711 dX12_whyNot_68 ?_
        refine r_lsub C dX12_whyNot_71 ?_
        obtain ⟨r19, μ18, e20, hf⟩ := bn_some hf
        refine r_callVv C hw (K := [(1, (x1 - 40))]) ok12 t0 (c_X12_isPerson l D b t0 e20) mi_X12_isPerson in_X12_isPerson se_X12_isPerson kl_12_262 rfl rfl (lvh_sz hl) (by decide) (Kr := []) rfl (Nat.le_of_ble_eq_true rfl) dX12_whyNot_72 (fun H locs hw => ?_)
        refine r_if_eq C (tgt := 82) (by decide) dX12_whyNot_75 (fun c21 => ?_) (fun c21 => ?_)
        · have hf := ite_t c21 hf
          refine r_iconst C dX12_whyNot_82 ?_
          exact r_iret C hw hf dX12_whyNot_83
        · have hf := ite_f c21 hf
          refine r_iconst C dX12_whyNot_78 ?_
          refine r_goto C (tgt := 83) (by decide) dX12_whyNot_79 ?_
          exact r_iret C hw hf dX12_whyNot_83
    · have hf := ite_f c8 hf
      refine r_aload_n C hl (kx := 0) rfl rfl dX12_whyNot_30 ?_
      refine r_lload_n C hl (kx := 1) rfl rfl dX12_whyNot_31 ?_
      refine r_ldc2 C (z := 10) (by decide) kw1691 dX12_whyNot_32 ?_
      refine r_lrem C (by decide) dX12_whyNot_35 ?_
      refine r_lload_n C hl (kx := 1) rfl rfl dX12_whyNot_36 ?_
      refine r_ldc2 C (z := 20) (by decide) kw1710 dX12_whyNot_37 ?_
      refine r_lcmp C dX12_whyNot_40 ?_
      refine r_if_ge C (tgt := 48) (by decide) dX12_whyNot_41 (fun c22 => ?_) (fun c22 => ?_)
      · have hf := ite_t c22 hf
        refine r_iconst C dX12_whyNot_48 ?_
        exact w_X12_whyNot_49 C hf hw (lvh_sub hl [] rfl)
      · have hf := ite_f c22 hf
        refine r_iconst C dX12_whyNot_44 ?_
        refine r_goto C (tgt := 49) (by decide) dX12_whyNot_45 ?_
        exact w_X12_whyNot_49 C hf hw (lvh_sub hl [] rfl)
  · have hf := ite_f c4 hf
    refine r_aload_n C hl (kx := 0) rfl rfl dX12_whyNot_11 ?_
    refine r_lload_n C hl (kx := 1) rfl rfl dX12_whyNot_12 ?_
    obtain ⟨r24, μ23, e25, hf⟩ := bn_some hf
    refine r_callVv C hw (K := [(1, x1)]) ok12 t0 (c_X12_whyGo l D b t0 e25) mi_X12_whyGo in_X12_whyGo se_X12_whyGo kl_12_236 rfl rfl (lvh_sz hl) (by decide) (Kr := []) rfl (Nat.le_of_ble_eq_true rfl) dX12_whyNot_13 (fun H locs hw => ?_)
    exact r_iret C hw hf dX12_whyNot_16
theorem c_X12_whyNot (l : Launch) (D : Ds) (b : Nat) {x0 x1 : Int} {μ μ' : Mem} {r : Int} (t0 : isK x0 12) (hf : f_X12_whyNot x0 x1 μ = some (r, μ')) : Ctr l D b yX12_whyNot cX12_whyNot 3 (some .int) 5 [(2, x0), (1, x1)] μ (some (.int (jI r))) μ' := by
  refine Ctr.of (by decide +kernel) (Nat.le_of_ble_eq_true rfl) ?_
  intro p e s m below meth c C hw ls hl
  exact w_X12_whyNot_0 C hf t0 hw hl
set_option maxHeartbeats 4000000 in
set_option maxRecDepth 20000 in
theorem w_X12_does_44 (C : Cx p s m args meth c D b cX12_does 2 RX12 (none)) {r : Int} {μ' : Mem} {s0 s1 s2 s3 : Int} {μ : Mem} {H : Heap} {locs : List Loc} {ls : Array Slot} (hf : f_X12_does_j44 s0 s1 s2 s3 μ = some (r, μ')) (hw : Hw D b μ s.heap H locs) (hl : lvh b ls 2 []) : W p l e (rm 4) s m args below meth c H locs 0 0 (QM below args s D b none μ') (F0 m 44 ls [.int (jI s3), .int (jI s2), .int (jI s1), rfv b s0]) := by
  unfold f_X12_does_j44 at hf
  refine r_iadd C dX12_does_44 ?_
  obtain ⟨g3, hf⟩ := gd_some hf
  obtain ⟨μ1, e2, hf⟩ := nm_some hf
  refine r_iastA C hw g3 dX12_does_45 (fun H locs hw => ?_)
  rw [← e2] at hw
  refine r_goto C (tgt := 112) (by decide) dX12_does_46 ?_
  exact r_vret C hw hf dX12_does_112
set_option maxHeartbeats 4000000 in
set_option maxRecDepth 20000 in
theorem w_X12_does_0 (C : Cx p s m args meth c D b cX12_does 2 RX12 (none)) {r : Int} {μ' : Mem} {x0 x1 : Int} {μ : Mem} {H : Heap} {locs : List Loc} {ls : Array Slot} (hf : f_X12_does x0 x1 μ = some (r, μ')) (t0 : isK x0 12) (hw : Hw D b μ s.heap H locs) (hl : lvh b ls 2 [(0, 2, x0), (1, 0, x1)]) : W p l e (rm 4) s m args below meth c H locs 0 0 (QM below args s D b none μ') (F0 m 0 ls []) := by
  unfold f_X12_does at hf
  refine r_iload_n C hl (kx := 1) rfl rfl dX12_does_0 ?_
  refine r_bipush C (by decide) dX12_does_1 ?_
  refine r_icmp_ge C (tgt := 14) (by decide) dX12_does_3 (fun c1 => ?_) (fun c1 => ?_)
  · have hf := ite_t c1 hf
    refine r_iload_n C hl (kx := 1) rfl rfl dX12_does_14 ?_
    refine r_bipush C (by decide) dX12_does_15 ?_
    refine r_icmp_ge C (tgt := 49) (by decide) dX12_does_17 (fun c2 => ?_) (fun c2 => ?_)
    · have hf := ite_t c2 hf
      refine r_iload_n C hl (kx := 1) rfl rfl dX12_does_49 ?_
      refine r_bipush C (by decide) dX12_does_50 ?_
      refine r_icmp_ge C (tgt := 69) (by decide) dX12_does_52 (fun c3 => ?_) (fun c3 => ?_)
      · have hf := ite_t c3 hf
        refine r_iload_n C hl (kx := 1) rfl rfl dX12_does_69 ?_
        refine r_bipush C (by decide) dX12_does_70 ?_
        refine r_icmp_ge C (tgt := 94) (by decide) dX12_does_72 (fun c4 => ?_) (fun c4 => ?_)
        · have hf := ite_t c4 hf
          refine r_aload_n C hl (kx := 0) rfl rfl dX12_does_94 ?_
          refine gf_12_13 C hw t0 dX12_does_95 ?_
          refine r_bipush C (by decide) dX12_does_98 ?_
          refine r_aload_n C hl (kx := 0) rfl rfl dX12_does_100 ?_
          refine r_aload_n C hl (kx := 0) rfl rfl dX12_does_101 ?_
          refine gf_12_13 C hw t0 dX12_does_102 ?_
          refine r_bipush C (by decide) dX12_does_105 ?_
          refine r_iald C hw (n := 3300) (ow_12_1 t0) (j := 65) (by decide) (by decide) (by decide) dX12_does_107 ?_
          obtain ⟨r6, μ5, e7, hf⟩ := bn_some hf
          refine r_callVv C hw (K := [(0, (μ (x0 + 1) 65))]) ok12 t0 (c_X12_seasonTo l D b t0 e7) mi_X12_seasonTo in_X12_seasonTo se_X12_seasonTo kl_12_267 rfl rfl (lvh_sz hl) (by decide) (Kr := [(0, 65), (2, (x0 + 1))]) rfl (Nat.le_of_ble_eq_true rfl) dX12_does_108 (fun H locs hw => ?_)
          obtain ⟨μ8, e9, hf⟩ := nm_some hf
          refine r_iast C hw (n := 3300) (ow_12_1 t0) (j := 65) (by decide) (by decide) (by decide) dX12_does_111 (fun H locs hw => ?_)
          rw [← e9] at hw
          exact r_vret C hw hf dX12_does_112
        · have hf := ite_f c4 hf
          refine r_aload_n C hl (kx := 0) rfl rfl dX12_does_75 ?_
          refine gf_12_13 C hw t0 dX12_does_76 ?_
          refine r_bipush C (by decide) dX12_does_79 ?_
          refine r_dup2 C rfl (rfv_cat _ _) dX12_does_81 ?_
          refine r_iald C hw (n := 3300) (ow_12_1 t0) (j := 65) (by decide) (by decide) (by decide) dX12_does_82 ?_
          refine r_iconst C dX12_does_83 ?_
          refine r_iload_n C hl (kx := 1) rfl rfl dX12_does_84 ?_
          refine r_bipush C (by decide) dX12_does_85 ?_
          refine r_isub C dX12_does_87 ?_
          refine r_ishl C dX12_does_88 ?_
          refine r_ixor C dX12_does_89 ?_
          obtain ⟨μ10, e11, hf⟩ := nm_some hf
          refine r_iast C hw (n := 3300) (ow_12_1 t0) (j := 65) (by decide) (by decide) (by decide) dX12_does_90 (fun H locs hw => ?_)
          rw [← e11] at hw
          refine r_goto C (tgt := 112) (by decide) dX12_does_91 ?_
          exact r_vret C hw hf dX12_does_112
      · have hf := ite_f c3 hf
        refine r_aload_n C hl (kx := 0) rfl rfl dX12_does_55 ?_
        refine gf_12_13 C hw t0 dX12_does_56 ?_
        refine r_bipush C (by decide) dX12_does_59 ?_
        refine r_iload_n C hl (kx := 1) rfl rfl dX12_does_61 ?_
        refine r_bipush C (by decide) dX12_does_62 ?_
        refine r_isub C dX12_does_64 ?_
        obtain ⟨μ12, e13, hf⟩ := nm_some hf
        refine r_iast C hw (n := 3300) (ow_12_1 t0) (j := 66) (by decide) (by decide) (by decide) dX12_does_65 (fun H locs hw => ?_)
        rw [← e13] at hw
        refine r_goto C (tgt := 112) (by decide) dX12_does_66 ?_
        exact r_vret C hw hf dX12_does_112
    · have hf := ite_f c2 hf
      refine r_aload_n C hl (kx := 0) rfl rfl dX12_does_20 ?_
      refine gf_12_13 C hw t0 dX12_does_21 ?_
      refine r_bipush C (by decide) dX12_does_24 ?_
      refine r_iload_n C hl (kx := 1) rfl rfl dX12_does_26 ?_
      refine r_bipush C (by decide) dX12_does_27 ?_
      refine r_irem C (by decide) dX12_does_29 ?_
      refine r_iadd C dX12_does_30 ?_
      refine r_dup2 C rfl (rfv_cat _ _) dX12_does_31 ?_
      obtain ⟨g14, hf⟩ := gd_some hf
      refine r_iald C hw (n := 3300) (ow_12_1 t0) (j := (nrm (56 + (jrem x1 10)))) rfl g14 (by decide) dX12_does_32 ?_
      refine r_iload_n C hl (kx := 1) rfl rfl dX12_does_33 ?_
      refine r_bipush C (by decide) dX12_does_34 ?_
      refine r_icmp_ge C (tgt := 43) (by decide) dX12_does_36 (fun c15 => ?_) (fun c15 => ?_)
      · have hf := ite_t c15 hf
        refine r_iconst C dX12_does_43 ?_
        exact w_X12_does_44 C hf hw (lvh_sub hl [] rfl)
      · have hf := ite_f c15 hf
        refine r_iconst C dX12_does_39 ?_
        refine r_goto C (tgt := 44) (by decide) dX12_does_40 ?_
        exact w_X12_does_44 C hf hw (lvh_sub hl [] rfl)
  · have hf := ite_f c1 hf
    refine r_aload_n C hl (kx := 0) rfl rfl dX12_does_6 ?_
    refine r_iload_n C hl (kx := 1) rfl rfl dX12_does_7 ?_
    obtain ⟨r17, μ16, e18, hf⟩ := bn_some hf
    refine r_callVn C hw (K := [(0, x1)]) ok12 t0 (c_X12_goes l D b t0 e18) mi_X12_goes in_X12_goes se_X12_goes kl_12_249 rfl rfl (lvh_sz hl) (by decide) (Kr := []) rfl (Nat.le_of_ble_eq_true rfl) dX12_does_8 (fun H locs hw => ?_)
    refine r_goto C (tgt := 112) (by decide) dX12_does_11 ?_
    exact r_vret C hw hf dX12_does_112
theorem c_X12_does (l : Launch) (D : Ds) (b : Nat) {x0 x1 : Int} {μ μ' : Mem} {r : Int} (t0 : isK x0 12) (hf : f_X12_does x0 x1 μ = some (r, μ')) : Ctr l D b yX12_does cX12_does 2 (none) 4 [(2, x0), (0, x1)] μ none μ' := by
  refine Ctr.of (by decide +kernel) (Nat.le_of_ble_eq_true rfl) ?_
  intro p e s m below meth c C hw ls hl
  exact w_X12_does_0 C hf t0 hw hl
set_option maxHeartbeats 4000000 in
set_option maxRecDepth 20000 in
theorem w_X12_tells_7 (C : Cx p s m args meth c D b cX12_tells 3 RX12 (some .int)) {r : Int} {μ' : Mem} : ∀ (n : Nat) (x0 x1 x2 : Int) (μ : Mem) (H : Heap) (locs : List Loc) (ls : Array Slot), f_X12_tells_w7 n x0 x1 x2 μ = some (r, μ') → isK x0 12 → Hw D b μ s.heap H locs → lvh b ls 3 [(0, 2, x0), (1, 0, x1), (2, 0, x2)] → W p l e (rm 6) s m args below meth c H locs 0 0 (QM below args s D b (some (.int (jI r))) μ') (F0 m 7 ls []) := by
  intro n
  induction n with
  | zero => intro x0 x1 x2 μ H locs ls hf; cases hf
  | succ n ih =>
    intro x0 x1 x2 μ H locs ls hf t0 hw hl
    rw [f_X12_tells_w7.eq_2] at hf
    refine r_iload_n C hl (kx := 2) rfl rfl dX12_tells_7 ?_
    refine r_aload_n C hl (kx := 0) rfl rfl dX12_tells_8 ?_
    refine gf_12_63 C hw t0 dX12_tells_9 ?_
    refine r_iload_n C hl (kx := 1) rfl rfl dX12_tells_12 ?_
    obtain ⟨g1, hf⟩ := gd_some hf
    refine r_iald C hw (n := 4) (ow_12_30 t0) (j := (nrm x1)) rfl g1 (by decide) dX12_tells_13 ?_
    refine r_icmp_ge C (tgt := 67) (by decide) dX12_tells_14 (fun c2 => ?_) (fun c2 => ?_)
    · have hf := ite_t c2 hf
      refine r_aload_n C hl (kx := 0) rfl rfl dX12_tells_67 ?_
      refine gf_12_63 C hw t0 dX12_tells_68 ?_
      refine r_iload_n C hl (kx := 1) rfl rfl dX12_tells_71 ?_
      obtain ⟨g3, hf⟩ := gd_some hf
      refine r_iald C hw (n := 4) (ow_12_30 t0) (j := (nrm x1)) rfl g3 (by decide) dX12_tells_72 ?_
      exact r_iret C hw hf dX12_tells_73
    · have hf := ite_f c2 hf
      refine r_aload_n C hl (kx := 0) rfl rfl dX12_tells_17 ?_
      refine r_aload_n C hl (kx := 0) rfl rfl dX12_tells_18 ?_
      refine r_aload_n C hl (kx := 0) rfl rfl dX12_tells_19 ?_
      refine gf_12_66 C hw t0 dX12_tells_20 ?_
      refine r_bipush C (by decide) dX12_tells_23 ?_
      refine r_iload_n C hl (kx := 1) rfl rfl dX12_tells_25 ?_
      refine r_imul C dX12_tells_26 ?_
      refine r_iload_n C hl (kx := 2) rfl rfl dX12_tells_27 ?_
      refine r_iadd C dX12_tells_28 ?_
      obtain ⟨g4, hf⟩ := gd_some hf
      refine r_lald C hw (n := 160) (ow_12_31 t0) (j := (nrm ((40 * x1) + x2))) rfl g4 (by decide) dX12_tells_29 ?_
      obtain ⟨r6, μ5, e7, hf⟩ := bn_some hf
      refine r_callVv C hw (K := [(1, (μ (x0 + 17) (nrm ((40 * x1) + x2))))]) ok12 t0 (c_X12_whyNot l D b t0 e7) mi_X12_whyNot in_X12_whyNot se_X12_whyNot kl_12_291 rfl rfl (lvh_sz hl) (by decide) (Kr := [(2, x0)]) rfl (Nat.le_of_ble_eq_true rfl) dX12_tells_30 (fun H locs hw => ?_)
      obtain ⟨μ8, e9, hf⟩ := nm_some hf
      refine pf_12_288 C hw t0 dX12_tells_33 (fun H locs hw => ?_)
      rw [← e9] at hw
      refine r_aload_n C hl (kx := 0) rfl rfl dX12_tells_36 ?_
      refine gf_12_288 C hw t0 dX12_tells_37 ?_
      refine r_if_eq C (tgt := 45) (by decide) dX12_tells_40 (fun c10 => ?_) (fun c10 => ?_)
      · have hf := ite_t c10 hf
        refine r_aload_n C hl (kx := 0) rfl rfl dX12_tells_45 ?_
        refine r_aload_n C hl (kx := 0) rfl rfl dX12_tells_46 ?_
        refine gf_12_66 C hw t0 dX12_tells_47 ?_
        refine r_bipush C (by decide) dX12_tells_50 ?_
        refine r_iload_n C hl (kx := 1) rfl rfl dX12_tells_52 ?_
        refine r_imul C dX12_tells_53 ?_
        refine r_iload_n C hl (kx := 2) rfl rfl dX12_tells_54 ?_
        refine r_iadd C dX12_tells_55 ?_
        obtain ⟨g11, hf⟩ := gd_some hf
        refine r_lald C hw (n := 160) (ow_12_31 t0) (j := (nrm ((40 * x1) + x2))) rfl g11 (by decide) dX12_tells_56 ?_
        refine r_l2i C dX12_tells_57 ?_
        obtain ⟨r13, μ12, e14, hf⟩ := bn_some hf
        refine r_callVn C hw (K := [(0, (μ8 (x0 + 17) (nrm ((40 * x1) + x2))))]) ok12 t0 (c_X12_does l D b t0 e14) mi_X12_does in_X12_does se_X12_does kl_12_294 rfl rfl (lvh_sz hl) (by decide) (Kr := []) rfl (Nat.le_of_ble_eq_true rfl) dX12_tells_58 (fun H locs hw => ?_)
        refine r_iinc C hl (kx := 2) rfl (by decide) (L' := [(2, 0, (x2 + 1)), (0, 2, x0), (1, 0, x1)]) rfl dX12_tells_61 (fun ls hl => ?_)
        refine r_goto C (tgt := 7) (by decide) dX12_tells_64 ?_
        exact ih _ _ _ _ _ _ _ hf t0 hw (lvh_sub hl [1, 2, 0] rfl)
      · have hf := ite_f c10 hf
        refine r_iload_n C hl (kx := 2) rfl rfl dX12_tells_43 ?_
        exact r_iret C hw hf dX12_tells_44
set_option maxHeartbeats 4000000 in
set_option maxRecDepth 20000 in
theorem w_X12_tells_0 (C : Cx p s m args meth c D b cX12_tells 3 RX12 (some .int)) {r : Int} {μ' : Mem} {x0 x1 : Int} {μ : Mem} {H : Heap} {locs : List Loc} {ls : Array Slot} (hf : f_X12_tells x0 x1 μ = some (r, μ')) (t0 : isK x0 12) (hw : Hw D b μ s.heap H locs) (hl : lvh b ls 3 [(0, 2, x0), (1, 0, x1)]) : W p l e (rm 6) s m args below meth c H locs 0 0 (QM below args s D b (some (.int (jI r))) μ') (F0 m 0 ls []) := by
  unfold f_X12_tells at hf
  refine r_aload_n C hl (kx := 0) rfl rfl dX12_tells_0 ?_
  refine r_iconst C dX12_tells_1 ?_
  obtain ⟨μ1, e2, hf⟩ := nm_some hf
  refine pf_12_288 C hw t0 dX12_tells_2 (fun H locs hw => ?_)
  rw [← e2] at hw
  refine r_iconst C dX12_tells_5 ?_
  refine r_istore_n C hl (by decide) (L' := [(2, 0, 0), (0, 2, x0), (1, 0, x1)]) rfl rfl dX12_tells_6 (fun ls hl => ?_)
  exact w_X12_tells_7 C FU _ _ _ _ _ _ _ hf t0 hw (lvh_sub hl [1, 2, 0] rfl)
theorem c_X12_tells (l : Launch) (D : Ds) (b : Nat) {x0 x1 : Int} {μ μ' : Mem} {r : Int} (t0 : isK x0 12) (hf : f_X12_tells x0 x1 μ = some (r, μ')) : Ctr l D b yX12_tells cX12_tells 3 (some .int) 6 [(2, x0), (0, x1)] μ (some (.int (jI r))) μ' := by
  refine Ctr.of (by decide +kernel) (Nat.le_of_ble_eq_true rfl) ?_
  intro p e s m below meth c C hw ls hl
  exact w_X12_tells_0 C hf t0 hw hl
set_option maxHeartbeats 4000000 in
set_option maxRecDepth 20000 in
theorem w_X12_noTray_0 (C : Cx p s m args meth c D b cX12_noTray 2 RX12 (some .int)) {r : Int} {μ' : Mem} {x0 x1 : Int} {μ : Mem} {H : Heap} {locs : List Loc} {ls : Array Slot} (hf : f_X12_noTray x0 x1 μ = some (r, μ')) (t0 : isK x0 12) (hw : Hw D b μ s.heap H locs) (hl : lvh b ls 2 [(0, 2, x0), (1, 0, x1)]) : W p l e (rm 1) s m args below meth c H locs 0 0 (QM below args s D b (some (.int (jI r))) μ') (F0 m 0 ls []) := by
  unfold f_X12_noTray at hf
  refine r_iload_n C hl (kx := 1) rfl rfl dX12_noTray_0 ?_
  refine r_i2l C dX12_noTray_1 ?_
  refine r_lconst C (z := 0) (by decide) dX12_noTray_2 ?_
  refine r_ldc2 C (z := 3) (by decide) kw1696 dX12_noTray_3 ?_
  obtain ⟨r2, μ1, e3, hf⟩ := bn_some hf
  refine r_callSv C hw (K := [(1, (nrm x1)), (1, 0), (1, 3)]) (c_X12_within l D b e3) mi_X12_within st_X12_within kl_12_136 rfl rfl (lvh_sz hl) (by decide) (Kr := []) rfl (Nat.le_of_ble_eq_true rfl) dX12_noTray_6 (fun H locs hw => ?_)
  refine r_if_ne C (tgt := 17) (by decide) dX12_noTray_9 (fun c4 => ?_) (fun c4 => ?_)
  · have hf := ite_f c4 hf
    refine r_aload_n C hl (kx := 0) rfl rfl dX12_noTray_17 ?_
    refine gf_12_60 C hw t0 dX12_noTray_18 ?_
    refine r_iload_n C hl (kx := 1) rfl rfl dX12_noTray_21 ?_
    obtain ⟨g5, hf⟩ := gd_some hf
    refine r_iald C hw (n := 4) (ow_12_29 t0) (j := (nrm x1)) rfl g5 (by decide) dX12_noTray_22 ?_
    refine r_iconst C dX12_noTray_23 ?_
    refine r_icmp_ne C (tgt := 32) (by decide) dX12_noTray_24 (fun c6 => ?_) (fun c6 => ?_)
    · have hf := ite_f c6 hf
      refine r_iconst C dX12_noTray_32 ?_
      exact r_iret C hw hf dX12_noTray_33
    · have hf := ite_t c6 hf
      refine r_bipush C (by decide) dX12_noTray_27 ?_
      refine r_goto C (tgt := 33) (by decide) dX12_noTray_29 ?_
      exact r_iret C hw hf dX12_noTray_33
  · have hf := ite_t c4 hf
    refine r_bipush C (by decide) dX12_noTray_12 ?_
    refine r_goto C (tgt := 33) (by decide) dX12_noTray_14 ?_
    exact r_iret C hw hf dX12_noTray_33
theorem c_X12_noTray (l : Launch) (D : Ds) (b : Nat) {x0 x1 : Int} {μ μ' : Mem} {r : Int} (t0 : isK x0 12) (hf : f_X12_noTray x0 x1 μ = some (r, μ')) : Ctr l D b yX12_noTray cX12_noTray 2 (some .int) 1 [(2, x0), (0, x1)] μ (some (.int (jI r))) μ' := by
  refine Ctr.of (by decide +kernel) (Nat.le_of_ble_eq_true rfl) ?_
  intro p e s m below meth c C hw ls hl
  exact w_X12_noTray_0 C hf t0 hw hl
set_option maxHeartbeats 4000000 in
set_option maxRecDepth 20000 in
theorem w_X12_depthSum_4 (C : Cx p s m args meth c D b cX12_depthSum 3 RX12 (some .int)) {r : Int} {μ' : Mem} : ∀ (n : Nat) (x0 x1 x2 : Int) (μ : Mem) (H : Heap) (locs : List Loc) (ls : Array Slot), f_X12_depthSum_w4 n x0 x1 x2 μ = some (r, μ') → isK x0 12 → Hw D b μ s.heap H locs → lvh b ls 3 [(0, 2, x0), (1, 0, x1), (2, 0, x2)] → W p l e (rm 0) s m args below meth c H locs 0 0 (QM below args s D b (some (.int (jI r))) μ') (F0 m 4 ls []) := by
  intro n
  induction n with
  | zero => intro x0 x1 x2 μ H locs ls hf; cases hf
  | succ n ih =>
    intro x0 x1 x2 μ H locs ls hf t0 hw hl
    rw [f_X12_depthSum_w4.eq_2] at hf
    refine r_iload_n C hl (kx := 2) rfl rfl dX12_depthSum_4 ?_
    refine r_aload_n C hl (kx := 0) rfl rfl dX12_depthSum_5 ?_
    refine gf_12_13 C hw t0 dX12_depthSum_6 ?_
    refine r_iconst C dX12_depthSum_9 ?_
    refine r_iald C hw (n := 3300) (ow_12_1 t0) (j := 2) (by decide) (by decide) (by decide) dX12_depthSum_10 ?_
    refine r_icmp_ge C (tgt := 32) (by decide) dX12_depthSum_11 (fun c1 => ?_) (fun c1 => ?_)
    · have hf := ite_t c1 hf
      refine r_iload_n C hl (kx := 1) rfl rfl dX12_depthSum_32 ?_
      exact r_iret C hw hf dX12_depthSum_33
    · have hf := ite_f c1 hf
      refine r_iload_n C hl (kx := 1) rfl rfl dX12_depthSum_14 ?_
      refine r_aload_n C hl (kx := 0) rfl rfl dX12_depthSum_15 ?_
      refine gf_12_13 C hw t0 dX12_depthSum_16 ?_
      refine r_bipush C (by decide) dX12_depthSum_19 ?_
      refine r_iload_n C hl (kx := 2) rfl rfl dX12_depthSum_21 ?_
      refine r_iadd C dX12_depthSum_22 ?_
      obtain ⟨g2, hf⟩ := gd_some hf
      refine r_iald C hw (n := 3300) (ow_12_1 t0) (j := (nrm (56 + x2))) rfl g2 (by decide) dX12_depthSum_23 ?_
      refine r_iadd C dX12_depthSum_24 ?_
      obtain ⟨v3, e4, hf⟩ := nm_some hf
      refine top_i e4 ?_
      refine r_istore_n C hl (by decide) (L' := [(1, 0, v3), (0, 2, x0), (2, 0, x2)]) rfl rfl dX12_depthSum_25 (fun ls hl => ?_)
      refine r_iinc C hl (kx := 2) rfl (by decide) (L' := [(2, 0, (x2 + 1)), (1, 0, v3), (0, 2, x0)]) rfl dX12_depthSum_26 (fun ls hl => ?_)
      refine r_goto C (tgt := 4) (by decide) dX12_depthSum_29 ?_
      exact ih _ _ _ _ _ _ _ hf t0 hw (lvh_sub hl [2, 1, 0] rfl)
set_option maxHeartbeats 4000000 in
set_option maxRecDepth 20000 in
theorem w_X12_depthSum_0 (C : Cx p s m args meth c D b cX12_depthSum 3 RX12 (some .int)) {r : Int} {μ' : Mem} {x0 : Int} {μ : Mem} {H : Heap} {locs : List Loc} {ls : Array Slot} (hf : f_X12_depthSum x0 μ = some (r, μ')) (t0 : isK x0 12) (hw : Hw D b μ s.heap H locs) (hl : lvh b ls 3 [(0, 2, x0)]) : W p l e (rm 0) s m args below meth c H locs 0 0 (QM below args s D b (some (.int (jI r))) μ') (F0 m 0 ls []) := by
  unfold f_X12_depthSum at hf
  refine r_iconst C dX12_depthSum_0 ?_
  refine r_istore_n C hl (by decide) (L' := [(1, 0, 0), (0, 2, x0)]) rfl rfl dX12_depthSum_1 (fun ls hl => ?_)
  refine r_iconst C dX12_depthSum_2 ?_
  refine r_istore_n C hl (by decide) (L' := [(2, 0, 0), (1, 0, 0), (0, 2, x0)]) rfl rfl dX12_depthSum_3 (fun ls hl => ?_)
  exact w_X12_depthSum_4 C FU _ _ _ _ _ _ _ hf t0 hw (lvh_sub hl [2, 1, 0] rfl)
theorem c_X12_depthSum (l : Launch) (D : Ds) (b : Nat) {x0 : Int} {μ μ' : Mem} {r : Int} (t0 : isK x0 12) (hf : f_X12_depthSum x0 μ = some (r, μ')) : Ctr l D b yX12_depthSum cX12_depthSum 3 (some .int) 0 [(2, x0)] μ (some (.int (jI r))) μ' := by
  refine Ctr.of (by decide +kernel) (Nat.le_of_ble_eq_true rfl) ?_
  intro p e s m below meth c C hw ls hl
  exact w_X12_depthSum_0 C hf t0 hw hl
set_option maxHeartbeats 4000000 in
set_option maxRecDepth 20000 in
theorem w_X12_judge_0 (C : Cx p s m args meth c D b cX12_judge 7 RX12 (some .int)) {r : Int} {μ' : Mem} {x0 x1 x2 : Int} {μ : Mem} {H : Heap} {locs : List Loc} {ls : Array Slot} (hf : f_X12_judge x0 x1 x2 μ = some (r, μ')) (t0 : isK x0 12) (hw : Hw D b μ s.heap H locs) (hl : lvh b ls 7 [(0, 2, x0), (1, 0, x1), (2, 0, x2)]) : W p l e (rm 7) s m args below meth c H locs 0 0 (QM below args s D b (some (.int (jI r))) μ') (F0 m 0 ls []) := by
  unfold f_X12_judge at hf
  refine r_aload_n C hl (kx := 0) rfl rfl dX12_judge_0 ?_
  refine r_iconst C dX12_judge_1 ?_
  obtain ⟨μ1, e2, hf⟩ := nm_some hf
  refine pf_12_1 C hw t0 dX12_judge_2 (fun H locs hw => ?_)
  rw [← e2] at hw
  refine r_iload_n C hl (kx := 2) rfl rfl dX12_judge_5 ?_
  refine r_i2l C dX12_judge_6 ?_
  refine r_lconst C (z := 0) (by decide) dX12_judge_7 ?_
  refine r_ldc2 C (z := 3) (by decide) kw1696 dX12_judge_8 ?_
  obtain ⟨r4, μ3, e5, hf⟩ := bn_some hf
  refine r_callSv C hw (K := [(1, (nrm x2)), (1, 0), (1, 3)]) (c_X12_within l D b e5) mi_X12_within st_X12_within kl_12_136 rfl rfl (lvh_sz hl) (by decide) (Kr := []) rfl (Nat.le_of_ble_eq_true rfl) dX12_judge_11 (fun H locs hw => ?_)
  refine r_if_ne C (tgt := 20) (by decide) dX12_judge_14 (fun c6 => ?_) (fun c6 => ?_)
  · have hf := ite_f c6 hf
    refine r_aload_n C hl (kx := 0) rfl rfl dX12_judge_20 ?_
    refine r_iload_n C hl (kx := 1) rfl rfl dX12_judge_21 ?_
    obtain ⟨r8, μ7, e9, hf⟩ := bn_some hf
    refine r_callVv C hw (K := [(0, x1)]) ok12 t0 (c_X12_noTray l D b t0 e9) mi_X12_noTray in_X12_noTray se_X12_noTray kl_12_299 rfl rfl (lvh_sz hl) (by decide) (Kr := []) rfl (Nat.le_of_ble_eq_true rfl) dX12_judge_22 (fun H locs hw => ?_)
    refine r_istore_n C hl (by decide) (L' := [(3, 0, r8), (0, 2, x0), (1, 0, x1), (2, 0, x2)]) rfl rfl dX12_judge_25 (fun ls hl => ?_)
    refine r_iload_n C hl (kx := 0) rfl rfl dX12_judge_26 ?_
    refine r_if_eq C (tgt := 32) (by decide) dX12_judge_27 (fun c10 => ?_) (fun c10 => ?_)
    · have hf := ite_t c10 hf
      refine r_aload_n C hl (kx := 1) rfl rfl dX12_judge_32 ?_
      obtain ⟨r12, μ11, e13, hf⟩ := bn_some hf
      refine r_callVn C hw (K := []) ok12 t0 (c_X12_stores l D b t0 e13) mi_X12_stores in_X12_stores se_X12_stores kl_12_246 rfl rfl (lvh_sz hl) (by decide) (Kr := []) rfl (Nat.le_of_ble_eq_true rfl) dX12_judge_33 (fun H locs hw => ?_)
      refine r_aload_n C hl (kx := 1) rfl rfl dX12_judge_36 ?_
      refine r_iload_n C hl (kx := 2) rfl rfl dX12_judge_37 ?_
      obtain ⟨r15, μ14, e16, hf⟩ := bn_some hf
      refine r_callVv C hw (K := [(0, x1)]) ok12 t0 (c_X12_tells l D b t0 e16) mi_X12_tells in_X12_tells se_X12_tells kl_12_302 rfl rfl (lvh_sz hl) (by decide) (Kr := []) rfl (Nat.le_of_ble_eq_true rfl) dX12_judge_38 (fun H locs hw => ?_)
      refine r_istore C hl (by decide) (L' := [(4, 0, r15), (3, 0, r8), (0, 2, x0), (1, 0, x1), (2, 0, x2)]) rfl dX12_judge_41 (fun ls hl => ?_)
      refine r_aload_n C hl (kx := 2) rfl rfl dX12_judge_43 ?_
      refine gf_12_13 C hw t0 dX12_judge_44 ?_
      refine r_bipush C (by decide) dX12_judge_47 ?_
      refine r_iald C hw (n := 3300) (ow_12_1 t0) (j := 55) (by decide) (by decide) (by decide) dX12_judge_49 ?_
      obtain ⟨v17, e18, hf⟩ := nm_some hf
      refine top_i e18 ?_
      refine r_istore C hl (by decide) (L' := [(5, 0, v17), (4, 0, r15), (3, 0, r8), (0, 2, x0), (1, 0, x1), (2, 0, x2)]) rfl dX12_judge_50 (fun ls hl => ?_)
      refine r_aload_n C hl (kx := 3) rfl rfl dX12_judge_52 ?_
      obtain ⟨r20, μ19, e21, hf⟩ := bn_some hf
      refine r_callVv C hw (K := []) ok12 t0 (c_X12_depthSum l D b t0 e21) mi_X12_depthSum in_X12_depthSum se_X12_depthSum kl_12_305 rfl rfl (lvh_sz hl) (by decide) (Kr := []) rfl (Nat.le_of_ble_eq_true rfl) dX12_judge_53 (fun H locs hw => ?_)
      refine r_istore C hl (by decide) (L' := [(6, 0, r20), (5, 0, v17), (4, 0, r15), (3, 0, r8), (0, 2, x0), (1, 0, x1), (2, 0, x2)]) rfl dX12_judge_56 (fun ls hl => ?_)
      refine r_aload_n C hl (kx := 4) rfl rfl dX12_judge_58 ?_
      obtain ⟨r23, μ22, e24, hf⟩ := bn_some hf
      refine r_callVn C hw (K := []) ok12 t0 (c_X12_isAgain l D b t0 e24) mi_X12_isAgain in_X12_isAgain se_X12_isAgain kl_12_308 rfl rfl (lvh_sz hl) (by decide) (Kr := []) rfl (Nat.le_of_ble_eq_true rfl) dX12_judge_59 (fun H locs hw => ?_)
      refine r_iload_n C hl (kx := 6) rfl rfl dX12_judge_62 ?_
      refine r_if_ne C (tgt := 82) (by decide) dX12_judge_63 (fun c25 => ?_) (fun c25 => ?_)
      · have hf := ite_f c25 hf
        refine r_iload_n C hl (kx := 6) rfl rfl dX12_judge_82 ?_
        refine r_iconst C dX12_judge_83 ?_
        refine r_icmp_ne C (tgt := 94) (by decide) dX12_judge_84 (fun c26 => ?_) (fun c26 => ?_)
        · have hf := ite_f c26 hf
          refine r_iload_n C hl (kx := 6) rfl rfl dX12_judge_94 ?_
          refine r_iconst C dX12_judge_95 ?_
          refine r_icmp_ne C (tgt := 104) (by decide) dX12_judge_96 (fun c27 => ?_) (fun c27 => ?_)
          · have hf := ite_f c27 hf
            refine r_iload C hl (kx := 0) rfl dX12_judge_104 ?_
            exact r_iret C hw hf dX12_judge_106
          · have hf := ite_t c27 hf
            refine r_iload C hl (kx := 1) rfl dX12_judge_99 ?_
            refine r_goto C (tgt := 106) (by decide) dX12_judge_101 ?_
            exact r_iret C hw hf dX12_judge_106
        · have hf := ite_t c26 hf
          refine r_aload_n C hl (kx := 4) rfl rfl dX12_judge_87 ?_
          refine gf_12_288 C hw t0 dX12_judge_88 ?_
          refine r_goto C (tgt := 106) (by decide) dX12_judge_91 ?_
          exact r_iret C hw hf dX12_judge_106
      · have hf := ite_t c25 hf
        refine r_aload_n C hl (kx := 4) rfl rfl dX12_judge_66 ?_
        refine gf_12_288 C hw t0 dX12_judge_67 ?_
        refine r_if_ne C (tgt := 77) (by decide) dX12_judge_70 (fun c28 => ?_) (fun c28 => ?_)
        · have hf := ite_f c28 hf
          refine r_iload C hl (kx := 2) rfl dX12_judge_77 ?_
          refine r_goto C (tgt := 106) (by decide) dX12_judge_79 ?_
          exact r_iret C hw hf dX12_judge_106
        · have hf := ite_t c28 hf
          refine r_iconst C dX12_judge_73 ?_
          refine r_goto C (tgt := 106) (by decide) dX12_judge_74 ?_
          exact r_iret C hw hf dX12_judge_106
    · have hf := ite_f c10 hf
      refine r_iload_n C hl (kx := 0) rfl rfl dX12_judge_30 ?_
      exact r_iret C hw hf dX12_judge_31
  · have hf := ite_t c6 hf
    refine r_bipush C (by decide) dX12_judge_17 ?_
    exact r_iret C hw hf dX12_judge_19
theorem c_X12_judge (l : Launch) (D : Ds) (b : Nat) {x0 x1 x2 : Int} {μ μ' : Mem} {r : Int} (t0 : isK x0 12) (hf : f_X12_judge x0 x1 x2 μ = some (r, μ')) : Ctr l D b yX12_judge cX12_judge 7 (some .int) 7 [(2, x0), (0, x1), (0, x2)] μ (some (.int (jI r))) μ' := by
  refine Ctr.of (by decide +kernel) (Nat.le_of_ble_eq_true rfl) ?_
  intro p e s m below meth c C hw ls hl
  exact w_X12_judge_0 C hf t0 hw hl
set_option maxHeartbeats 4000000 in
set_option maxRecDepth 20000 in
theorem w_X12_perform_0 (C : Cx p s m args meth c D b cX12_perform 4 RX12 (some .int)) {r : Int} {μ' : Mem} {x0 x1 : Int} {μ : Mem} {H : Heap} {locs : List Loc} {ls : Array Slot} (hf : f_X12_perform x0 x1 μ = some (r, μ')) (t0 : isK x0 12) (hw : Hw D b μ s.heap H locs) (hl : lvh b ls 4 [(0, 2, x0), (1, 0, x1)]) : W p l e (rm 7) s m args below meth c H locs 0 0 (QM below args s D b (some (.int (jI r))) μ') (F0 m 0 ls []) := by
  unfold f_X12_perform at hf
  refine r_aload_n C hl (kx := 0) rfl rfl dX12_perform_0 ?_
  refine r_iconst C dX12_perform_1 ?_
  obtain ⟨μ1, e2, hf⟩ := nm_some hf
  refine pf_12_1 C hw t0 dX12_perform_2 (fun H locs hw => ?_)
  rw [← e2] at hw
  refine r_aload_n C hl (kx := 0) rfl rfl dX12_perform_5 ?_
  refine r_iload_n C hl (kx := 1) rfl rfl dX12_perform_6 ?_
  obtain ⟨r4, μ3, e5, hf⟩ := bn_some hf
  refine r_callVv C hw (K := [(0, x1)]) ok12 t0 (c_X12_noTray l D b t0 e5) mi_X12_noTray in_X12_noTray se_X12_noTray kl_12_299 rfl rfl (lvh_sz hl) (by decide) (Kr := []) rfl (Nat.le_of_ble_eq_true rfl) dX12_perform_7 (fun H locs hw => ?_)
  refine r_istore_n C hl (by decide) (L' := [(2, 0, r4), (0, 2, x0), (1, 0, x1)]) rfl rfl dX12_perform_10 (fun ls hl => ?_)
  refine r_iload_n C hl (kx := 0) rfl rfl dX12_perform_11 ?_
  refine r_if_eq C (tgt := 17) (by decide) dX12_perform_12 (fun c6 => ?_) (fun c6 => ?_)
  · have hf := ite_t c6 hf
    refine r_aload_n C hl (kx := 1) rfl rfl dX12_perform_17 ?_
    obtain ⟨r8, μ7, e9, hf⟩ := bn_some hf
    refine r_callVn C hw (K := []) ok12 t0 (c_X12_stores l D b t0 e9) mi_X12_stores in_X12_stores se_X12_stores kl_12_246 rfl rfl (lvh_sz hl) (by decide) (Kr := []) rfl (Nat.le_of_ble_eq_true rfl) dX12_perform_18 (fun H locs hw => ?_)
    refine r_aload_n C hl (kx := 1) rfl rfl dX12_perform_21 ?_
    refine r_iload_n C hl (kx := 2) rfl rfl dX12_perform_22 ?_
    obtain ⟨r11, μ10, e12, hf⟩ := bn_some hf
    refine r_callVv C hw (K := [(0, x1)]) ok12 t0 (c_X12_tells l D b t0 e12) mi_X12_tells in_X12_tells se_X12_tells kl_12_302 rfl rfl (lvh_sz hl) (by decide) (Kr := []) rfl (Nat.le_of_ble_eq_true rfl) dX12_perform_23 (fun H locs hw => ?_)
    refine r_istore_n C hl (by decide) (L' := [(3, 0, r11), (2, 0, r4), (0, 2, x0), (1, 0, x1)]) rfl rfl dX12_perform_26 (fun ls hl => ?_)
    refine r_iload_n C hl (kx := 0) rfl rfl dX12_perform_27 ?_
    refine r_if_le C (tgt := 35) (by decide) dX12_perform_28 (fun c13 => ?_) (fun c13 => ?_)
    · have hf := ite_t c13 hf
      refine r_iload_n C hl (kx := 0) rfl rfl dX12_perform_35 ?_
      exact r_iret C hw hf dX12_perform_36
    · have hf := ite_f c13 hf
      refine r_aload_n C hl (kx := 2) rfl rfl dX12_perform_31 ?_
      obtain ⟨r15, μ14, e16, hf⟩ := bn_some hf
      refine r_callVn C hw (K := []) ok12 t0 (c_X12_notes l D b t0 e16) mi_X12_notes in_X12_notes se_X12_notes kl_12_252 rfl rfl (lvh_sz hl) (by decide) (Kr := []) rfl (Nat.le_of_ble_eq_true rfl) dX12_perform_32 (fun H locs hw => ?_)
      refine r_iload_n C hl (kx := 0) rfl rfl dX12_perform_35 ?_
      exact r_iret C hw hf dX12_perform_36
  · have hf := ite_f c6 hf
    refine r_iload_n C hl (kx := 0) rfl rfl dX12_perform_15 ?_
    exact r_iret C hw hf dX12_perform_16
theorem c_X12_perform (l : Launch) (D : Ds) (b : Nat) {x0 x1 : Int} {μ μ' : Mem} {r : Int} (t0 : isK x0 12) (hf : f_X12_perform x0 x1 μ = some (r, μ')) : Ctr l D b yX12_perform cX12_perform 4 (some .int) 7 [(2, x0), (0, x1)] μ (some (.int (jI r))) μ' := by
  refine Ctr.of (by decide +kernel) (Nat.le_of_ble_eq_true rfl) ?_
  intro p e s m below meth c C hw ls hl
  exact w_X12_perform_0 C hf t0 hw hl
set_option maxHeartbeats 4000000 in
set_option maxRecDepth 20000 in
theorem w_X12_draw_0 (C : Cx p s m args meth c D b cX12_draw 2 RX12 (some .int)) {r : Int} {μ' : Mem} {x0 x1 : Int} {μ : Mem} {H : Heap} {locs : List Loc} {ls : Array Slot} (hf : f_X12_draw x0 x1 μ = some (r, μ')) (t0 : isK x0 12) (hw : Hw D b μ s.heap H locs) (hl : lvh b ls 2 [(0, 2, x0), (1, 0, x1)]) : W p l e (rm 0) s m args below meth c H locs 0 0 (QM below args s D b (some (.int (jI r))) μ') (F0 m 0 ls []) := by
  unfold f_X12_draw at hf
  refine r_aload_n C hl (kx := 0) rfl rfl dX12_draw_0 ?_
  refine r_ldcw C (z := 1103515245) (by decide) kw1744 dX12_draw_1 ?_
  refine r_aload_n C hl (kx := 0) rfl rfl dX12_draw_4 ?_
  refine gf_12_312 C hw t0 dX12_draw_5 ?_
  refine r_imul C dX12_draw_8 ?_
  refine r_sipush C (by decide) dX12_draw_9 ?_
  refine r_iadd C dX12_draw_12 ?_
  obtain ⟨μ1, e2, hf⟩ := nm_some hf
  refine pf_12_312 C hw t0 dX12_draw_13 (fun H locs hw => ?_)
  rw [← e2] at hw
  refine r_aload_n C hl (kx := 0) rfl rfl dX12_draw_16 ?_
  refine gf_12_312 C hw t0 dX12_draw_17 ?_
  refine r_bipush C (by decide) dX12_draw_20 ?_
  refine r_iushr C dX12_draw_22 ?_
  refine r_iload_n C hl (kx := 1) rfl rfl dX12_draw_23 ?_
  obtain ⟨g3, hf⟩ := gd_some hf
  refine r_irem C g3 dX12_draw_24 ?_
  exact r_iret C hw hf dX12_draw_25
theorem c_X12_draw (l : Launch) (D : Ds) (b : Nat) {x0 x1 : Int} {μ μ' : Mem} {r : Int} (t0 : isK x0 12) (hf : f_X12_draw x0 x1 μ = some (r, μ')) : Ctr l D b yX12_draw cX12_draw 2 (some .int) 0 [(2, x0), (0, x1)] μ (some (.int (jI r))) μ' := by
  refine Ctr.of (by decide +kernel) (Nat.le_of_ble_eq_true rfl) ?_
  intro p e s m below meth c C hw ls hl
  exact w_X12_draw_0 C hf t0 hw hl
set_option maxHeartbeats 4000000 in
set_option maxRecDepth 20000 in
theorem w_X12_drawn_0 (C : Cx p s m args meth c D b cX12_drawn 2 RX12 (some .int)) {r : Int} {μ' : Mem} {x0 : Int} {μ : Mem} {H : Heap} {locs : List Loc} {ls : Array Slot} (hf : f_X12_drawn x0 μ = some (r, μ')) (t0 : isK x0 12) (hw : Hw D b μ s.heap H locs) (hl : lvh b ls 2 [(0, 2, x0)]) : W p l e (rm 1) s m args below meth c H locs 0 0 (QM below args s D b (some (.int (jI r))) μ') (F0 m 0 ls []) := by
  unfold f_X12_drawn at hf
  refine r_aload_n C hl (kx := 0) rfl rfl dX12_drawn_0 ?_
  refine r_bipush C (by decide) dX12_drawn_1 ?_
  obtain ⟨r2, μ1, e3, hf⟩ := bn_some hf
  refine r_callVv C hw (K := [(0, 8)]) ok12 t0 (c_X12_draw l D b t0 e3) mi_X12_draw in_X12_draw se_X12_draw kl_12_315 rfl rfl (lvh_sz hl) (by decide) (Kr := []) rfl (Nat.le_of_ble_eq_true rfl) dX12_drawn_3 (fun H locs hw => ?_)
  refine r_istore_n C hl (by decide) (L' := [(1, 0, r2), (0, 2, x0)]) rfl rfl dX12_drawn_6 (fun ls hl => ?_)
  refine r_iload_n C hl (kx := 0) rfl rfl dX12_drawn_7 ?_
  refine r_iconst C dX12_drawn_8 ?_
  refine r_icmp_ge C (tgt := 19) (by decide) dX12_drawn_9 (fun c4 => ?_) (fun c4 => ?_)
  · have hf := ite_t c4 hf
    refine r_iload_n C hl (kx := 0) rfl rfl dX12_drawn_19 ?_
    refine r_iconst C dX12_drawn_20 ?_
    refine r_icmp_ge C (tgt := 40) (by decide) dX12_drawn_21 (fun c5 => ?_) (fun c5 => ?_)
    · have hf := ite_t c5 hf
      refine r_iload_n C hl (kx := 0) rfl rfl dX12_drawn_40 ?_
      refine r_iconst C dX12_drawn_41 ?_
      refine r_icmp_ne C (tgt := 57) (by decide) dX12_drawn_42 (fun c6 => ?_) (fun c6 => ?_)
      · have hf := ite_f c6 hf
        refine r_iload_n C hl (kx := 0) rfl rfl dX12_drawn_57 ?_
        refine r_bipush C (by decide) dX12_drawn_58 ?_
        refine r_icmp_ne C (tgt := 75) (by decide) dX12_drawn_60 (fun c7 => ?_) (fun c7 => ?_)
        · have hf := ite_f c7 hf
          refine r_bipush C (by decide) dX12_drawn_75 ?_
          exact r_iret C hw hf dX12_drawn_77
        · have hf := ite_t c7 hf
          refine r_bipush C (by decide) dX12_drawn_63 ?_
          refine r_aload_n C hl (kx := 1) rfl rfl dX12_drawn_65 ?_
          refine r_bipush C (by decide) dX12_drawn_66 ?_
          obtain ⟨r9, μ8, e10, hf⟩ := bn_some hf
          refine r_callVv C hw (K := [(0, 8)]) ok12 t0 (c_X12_draw l D b t0 e10) mi_X12_draw in_X12_draw se_X12_draw kl_12_315 rfl rfl (lvh_sz hl) (by decide) (Kr := [(0, 40)]) rfl (Nat.le_of_ble_eq_true rfl) dX12_drawn_68 (fun H locs hw => ?_)
          refine r_iadd C dX12_drawn_71 ?_
          refine r_goto C (tgt := 77) (by decide) dX12_drawn_72 ?_
          exact r_iret C hw hf dX12_drawn_77
      · have hf := ite_t c6 hf
        refine r_bipush C (by decide) dX12_drawn_45 ?_
        refine r_aload_n C hl (kx := 1) rfl rfl dX12_drawn_47 ?_
        refine r_bipush C (by decide) dX12_drawn_48 ?_
        obtain ⟨r12, μ11, e13, hf⟩ := bn_some hf
        refine r_callVv C hw (K := [(0, 10)]) ok12 t0 (c_X12_draw l D b t0 e13) mi_X12_draw in_X12_draw se_X12_draw kl_12_315 rfl rfl (lvh_sz hl) (by decide) (Kr := [(0, 30)]) rfl (Nat.le_of_ble_eq_true rfl) dX12_drawn_50 (fun H locs hw => ?_)
        refine r_iadd C dX12_drawn_53 ?_
        refine r_goto C (tgt := 77) (by decide) dX12_drawn_54 ?_
        exact r_iret C hw hf dX12_drawn_77
    · have hf := ite_f c5 hf
      refine r_bipush C (by decide) dX12_drawn_24 ?_
      refine r_iload_n C hl (kx := 0) rfl rfl dX12_drawn_26 ?_
      refine r_iconst C dX12_drawn_27 ?_
      refine r_isub C dX12_drawn_28 ?_
      refine r_imul C dX12_drawn_29 ?_
      refine r_aload_n C hl (kx := 1) rfl rfl dX12_drawn_30 ?_
      refine r_bipush C (by decide) dX12_drawn_31 ?_
      obtain ⟨r15, μ14, e16, hf⟩ := bn_some hf
      refine r_callVv C hw (K := [(0, 9)]) ok12 t0 (c_X12_draw l D b t0 e16) mi_X12_draw in_X12_draw se_X12_draw kl_12_315 rfl rfl (lvh_sz hl) (by decide) (Kr := [(0, (10 * (r2 - 2)))]) rfl (Nat.le_of_ble_eq_true rfl) dX12_drawn_33 (fun H locs hw => ?_)
      refine r_iadd C dX12_drawn_36 ?_
      refine r_goto C (tgt := 77) (by decide) dX12_drawn_37 ?_
      exact r_iret C hw hf dX12_drawn_77
  · have hf := ite_f c4 hf
    refine r_aload_n C hl (kx := 1) rfl rfl dX12_drawn_12 ?_
    refine r_bipush C (by decide) dX12_drawn_13 ?_
    obtain ⟨r18, μ17, e19, hf⟩ := bn_some hf
    refine r_callVv C hw (K := [(0, 9)]) ok12 t0 (c_X12_draw l D b t0 e19) mi_X12_draw in_X12_draw se_X12_draw kl_12_315 rfl rfl (lvh_sz hl) (by decide) (Kr := []) rfl (Nat.le_of_ble_eq_true rfl) dX12_drawn_15 (fun H locs hw => ?_)
    exact r_iret C hw hf dX12_drawn_18
theorem c_X12_drawn (l : Launch) (D : Ds) (b : Nat) {x0 : Int} {μ μ' : Mem} {r : Int} (t0 : isK x0 12) (hf : f_X12_drawn x0 μ = some (r, μ')) : Ctr l D b yX12_drawn cX12_drawn 2 (some .int) 1 [(2, x0)] μ (some (.int (jI r))) μ' := by
  refine Ctr.of (by decide +kernel) (Nat.le_of_ble_eq_true rfl) ?_
  intro p e s m below meth c C hw ls hl
  exact w_X12_drawn_0 C hf t0 hw hl
set_option maxHeartbeats 4000000 in
set_option maxRecDepth 20000 in
theorem w_X12_year_68 (C : Cx p s m args meth c D b cX12_year 6 RX12 (some .int)) {r : Int} {μ' : Mem} (k34 : Int → Int → Int → Int → Mem → Option (Int × Mem)) (h34 : ∀ (x0 x2 x3 x4 : Int) (μ : Mem) (H : Heap) (locs : List Loc) (ls : Array Slot), k34 x0 x2 x3 x4 μ = some (r, μ') → isK x0 12 → Hw D b μ s.heap H locs → lvh b ls 6 [(0, 2, x0), (2, 0, x2), (3, 0, x3), (4, 0, x4)] → W p l e (rm 6) s m args below meth c H locs 0 0 (QM below args s D b (some (.int (jI r))) μ') (F0 m 34 ls [])) {x0 x2 x3 x4 : Int} {μ : Mem} {H : Heap} {locs : List Loc} {ls : Array Slot} (hf : f_X12_year_j68 k34 x0 x2 x3 x4 μ = some (r, μ')) (t0 : isK x0 12) (hw : Hw D b μ s.heap H locs) (hl : lvh b ls 6 [(0, 2, x0), (2, 0, x2), (3, 0, x3), (4, 0, x4)]) : W p l e (rm 6) s m args below meth c H locs 0 0 (QM below args s D b (some (.int (jI r))) μ') (F0 m 68 ls []) := by
  unfold f_X12_year_j68 at hf
  refine r_iinc C hl (kx := 3) rfl (by decide) (L' := [(4, 0, (x4 + 1)), (0, 2, x0), (2, 0, x2), (3, 0, x3)]) rfl dX12_year_68 (fun ls hl => ?_)
  refine r_goto C (tgt := 34) (by decide) dX12_year_71 ?_
  exact h34 _ _ _ _ _ _ _ _ hf t0 hw (lvh_sub hl [1, 2, 3, 0] rfl)
set_option maxHeartbeats 4000000 in
set_option maxRecDepth 20000 in
theorem w_X12_year_34 (C : Cx p s m args meth c D b cX12_year 6 RX12 (some .int)) {r : Int} {μ' : Mem} : ∀ (n : Nat) (x0 x2 x3 x4 : Int) (μ : Mem) (H : Heap) (locs : List Loc) (ls : Array Slot), f_X12_year_w34 n x0 x2 x3 x4 μ = some (r, μ') → isK x0 12 → Hw D b μ s.heap H locs → lvh b ls 6 [(0, 2, x0), (2, 0, x2), (3, 0, x3), (4, 0, x4)] → W p l e (rm 6) s m args below meth c H locs 0 0 (QM below args s D b (some (.int (jI r))) μ') (F0 m 34 ls []) := by
  intro n
  induction n with
  | zero => intro x0 x2 x3 x4 μ H locs ls hf; cases hf
  | succ n ih =>
    intro x0 x2 x3 x4 μ H locs ls hf t0 hw hl
    rw [f_X12_year_w34.eq_2] at hf
    refine r_iload C hl (kx := 3) rfl dX12_year_34 ?_
    refine r_iload_n C hl (kx := 1) rfl rfl dX12_year_36 ?_
    refine r_icmp_ge C (tgt := 74) (by decide) dX12_year_37 (fun c1 => ?_) (fun c1 => ?_)
    · have hf := ite_t c1 hf
      refine r_iload_n C hl (kx := 2) rfl rfl dX12_year_74 ?_
      refine r_if_le C (tgt := 82) (by decide) dX12_year_75 (fun c2 => ?_) (fun c2 => ?_)
      · have hf := ite_t c2 hf
        refine r_iload_n C hl (kx := 2) rfl rfl dX12_year_82 ?_
        exact r_iret C hw hf dX12_year_83
      · have hf := ite_f c2 hf
        refine r_aload_n C hl (kx := 0) rfl rfl dX12_year_78 ?_
        obtain ⟨r4, μ3, e5, hf⟩ := bn_some hf
        refine r_callVn C hw (K := []) ok12 t0 (c_X12_notes l D b t0 e5) mi_X12_notes in_X12_notes se_X12_notes kl_12_252 rfl rfl (lvh_sz hl) (by decide) (Kr := []) rfl (Nat.le_of_ble_eq_true rfl) dX12_year_79 (fun H locs hw => ?_)
        refine r_iload_n C hl (kx := 2) rfl rfl dX12_year_82 ?_
        exact r_iret C hw hf dX12_year_83
    · have hf := ite_f c1 hf
      refine r_aload_n C hl (kx := 0) rfl rfl dX12_year_40 ?_
      obtain ⟨r7, μ6, e8, hf⟩ := bn_some hf
      refine r_callVv C hw (K := []) ok12 t0 (c_X12_drawn l D b t0 e8) mi_X12_drawn in_X12_drawn se_X12_drawn kl_12_318 rfl rfl (lvh_sz hl) (by decide) (Kr := []) rfl (Nat.le_of_ble_eq_true rfl) dX12_year_41 (fun H locs hw => ?_)
      refine r_istore C hl (by decide) (L' := [(5, 0, r7), (0, 2, x0), (2, 0, x2), (3, 0, x3), (4, 0, x4)]) rfl dX12_year_44 (fun ls hl => ?_)
      refine r_aload_n C hl (kx := 1) rfl rfl dX12_year_46 ?_
      refine r_iload C hl (kx := 0) rfl dX12_year_47 ?_
      refine r_i2l C dX12_year_49 ?_
      obtain ⟨r10, μ9, e11, hf⟩ := bn_some hf
      refine r_callVv C hw (K := [(1, (nrm r7))]) ok12 t0 (c_X12_whyNot l D b t0 e11) mi_X12_whyNot in_X12_whyNot se_X12_whyNot kl_12_291 rfl rfl (lvh_sz hl) (by decide) (Kr := []) rfl (Nat.le_of_ble_eq_true rfl) dX12_year_50 (fun H locs hw => ?_)
      refine r_if_eq C (tgt := 59) (by decide) dX12_year_53 (fun c12 => ?_) (fun c12 => ?_)
      · have hf := ite_t c12 hf
        refine r_aload_n C hl (kx := 1) rfl rfl dX12_year_59 ?_
        refine r_iload C hl (kx := 0) rfl dX12_year_60 ?_
        obtain ⟨r14, μ13, e15, hf⟩ := bn_some hf
        refine r_callVn C hw (K := [(0, r7)]) ok12 t0 (c_X12_does l D b t0 e15) mi_X12_does in_X12_does se_X12_does kl_12_294 rfl rfl (lvh_sz hl) (by decide) (Kr := []) rfl (Nat.le_of_ble_eq_true rfl) dX12_year_62 (fun H locs hw => ?_)
        refine r_iinc C hl (kx := 3) rfl (by decide) (L' := [(3, 0, (x3 + 1)), (5, 0, r7), (0, 2, x0), (2, 0, x2), (4, 0, x4)]) rfl dX12_year_65 (fun ls hl => ?_)
        exact w_X12_year_68 C _ ih hf t0 hw (lvh_sub hl [2, 3, 0, 4] rfl)
      · have hf := ite_f c12 hf
        refine r_goto C (tgt := 68) (by decide) dX12_year_56 ?_
        exact w_X12_year_68 C _ ih hf t0 hw (lvh_sub hl [1, 2, 3, 4] rfl)
set_option maxHeartbeats 4000000 in
set_option maxRecDepth 20000 in
theorem w_X12_year_0 (C : Cx p s m args meth c D b cX12_year 6 RX12 (some .int)) {r : Int} {μ' : Mem} {x0 x1 x2 : Int} {μ : Mem} {H : Heap} {locs : List Loc} {ls : Array Slot} (hf : f_X12_year x0 x1 x2 μ = some (r, μ')) (t0 : isK x0 12) (hw : Hw D b μ s.heap H locs) (hl : lvh b ls 6 [(0, 2, x0), (1, 0, x1), (2, 0, x2)]) : W p l e (rm 6) s m args below meth c H locs 0 0 (QM below args s D b (some (.int (jI r))) μ') (F0 m 0 ls []) := by
  unfold f_X12_year at hf
  refine r_aload_n C hl (kx := 0) rfl rfl dX12_year_0 ?_
  refine r_iconst C dX12_year_1 ?_
  obtain ⟨μ1, e2, hf⟩ := nm_some hf
  refine pf_12_1 C hw t0 dX12_year_2 (fun H locs hw => ?_)
  rw [← e2] at hw
  refine r_iload_n C hl (kx := 2) rfl rfl dX12_year_5 ?_
  refine r_i2l C dX12_year_6 ?_
  refine r_lconst C (z := 1) (by decide) dX12_year_7 ?_
  refine r_ldc2 C (z := 40) (by decide) kw1711 dX12_year_8 ?_
  obtain ⟨r4, μ3, e5, hf⟩ := bn_some hf
  refine r_callSv C hw (K := [(1, (nrm x2)), (1, 1), (1, 40)]) (c_X12_within l D b e5) mi_X12_within st_X12_within kl_12_136 rfl rfl (lvh_sz hl) (by decide) (Kr := []) rfl (Nat.le_of_ble_eq_true rfl) dX12_year_11 (fun H locs hw => ?_)
  refine r_if_ne C (tgt := 20) (by decide) dX12_year_14 (fun c6 => ?_) (fun c6 => ?_)
  · have hf := ite_f c6 hf
    refine r_aload_n C hl (kx := 0) rfl rfl dX12_year_20 ?_
    obtain ⟨r8, μ7, e9, hf⟩ := bn_some hf
    refine r_callVn C hw (K := []) ok12 t0 (c_X12_stores l D b t0 e9) mi_X12_stores in_X12_stores se_X12_stores kl_12_246 rfl rfl (lvh_sz hl) (by decide) (Kr := []) rfl (Nat.le_of_ble_eq_true rfl) dX12_year_21 (fun H locs hw => ?_)
    refine r_aload_n C hl (kx := 0) rfl rfl dX12_year_24 ?_
    refine r_iload_n C hl (kx := 1) rfl rfl dX12_year_25 ?_
    obtain ⟨μ10, e11, hf⟩ := nm_some hf
    refine pf_12_312 C hw t0 dX12_year_26 (fun H locs hw => ?_)
    rw [← e11] at hw
    refine r_iconst C dX12_year_29 ?_
    refine r_istore_n C hl (by decide) (L' := [(3, 0, 0), (0, 2, x0), (1, 0, x1), (2, 0, x2)]) rfl rfl dX12_year_30 (fun ls hl => ?_)
    refine r_iconst C dX12_year_31 ?_
    refine r_istore C hl (by decide) (L' := [(4, 0, 0), (3, 0, 0), (0, 2, x0), (1, 0, x1), (2, 0, x2)]) rfl dX12_year_32 (fun ls hl => ?_)
    exact w_X12_year_34 C FU _ _ _ _ _ _ _ _ hf t0 hw (lvh_sub hl [2, 4, 1, 0] rfl)
  · have hf := ite_t c6 hf
    refine r_bipush C (by decide) dX12_year_17 ?_
    exact r_iret C hw hf dX12_year_19
theorem c_X12_year (l : Launch) (D : Ds) (b : Nat) {x0 x1 x2 : Int} {μ μ' : Mem} {r : Int} (t0 : isK x0 12) (hf : f_X12_year x0 x1 x2 μ = some (r, μ')) : Ctr l D b yX12_year cX12_year 6 (some .int) 6 [(2, x0), (0, x1), (0, x2)] μ (some (.int (jI r))) μ' := by
  refine Ctr.of (by decide +kernel) (Nat.le_of_ble_eq_true rfl) ?_
  intro p e s m below meth c C hw ls hl
  exact w_X12_year_0 C hf t0 hw hl
end WALK
