section WALK
variable {p : Program} {l : Launch} {e : Env} {s : State} {m : MethodId} {args : Array Value} {below : List Frame} {meth : Method} {c : Code} {H : Heap} {locs : List Loc} {D : Ds} {b : Nat} {n0 : Nat}
set_option maxHeartbeats 4000000 in
set_option maxRecDepth 20000 in
theorem w_X12_image_20 (C : Cx p s m args meth c D b cX12_image 3 RX12 (some .int)) {r : Int} {μ' : Mem} : ∀ (n : Nat) (x0 x1 x2 : Int) (μ : Mem) (H : Heap) (locs : List Loc) (ls : Array Slot), f_X12_image_w20 n x0 x1 x2 μ = some (r, μ') → isK x0 12 → Hw D b μ s.heap H locs → lvh b ls 3 [(0, 2, x0), (1, 0, x1), (2, 0, x2)] → W p l e (rm 1) s m args below meth c H locs 0 0 (QM below args s D b (some (.int (jI r))) μ') (F0 m 20 ls []) := by
  intro n
  induction n with
  | zero => intro x0 x1 x2 μ H locs ls hf; cases hf
  | succ n ih =>
    intro x0 x1 x2 μ H locs ls hf t0 hw hl
    rw [f_X12_image_w20.eq_2] at hf
    refine r_iload_n C hl (kx := 2) rfl rfl dX12_image_20 ?_
    refine r_sipush C (by decide) dX12_image_21 ?_
    refine r_icmp_ge C (tgt := 53) (by decide) dX12_image_24 (fun c1 => ?_) (fun c1 => ?_)
    · have hf := ite_t c1 hf
      refine r_aload_n C hl (kx := 0) rfl rfl dX12_image_53 ?_
      refine gf_12_17 C hw t0 dX12_image_54 ?_
      refine r_iload_n C hl (kx := 1) rfl rfl dX12_image_57 ?_
      refine r_iconst C dX12_image_58 ?_
      obtain ⟨g4, hf⟩ := gd_some hf
      obtain ⟨μ2, e3, hf⟩ := nm_some hf
      refine r_zast C hw (n := 2) (ow_12_2 t0) (j := (nrm x1)) rfl g4 (by decide) (by decide) dX12_image_59 (fun H locs hw => ?_)
      rw [← e3] at hw
      refine r_iconst C dX12_image_60 ?_
      exact r_iret C hw hf dX12_image_61
    · have hf := ite_f c1 hf
      refine r_aload_n C hl (kx := 0) rfl rfl dX12_image_27 ?_
      refine gf_12_13 C hw t0 dX12_image_28 ?_
      refine r_sipush C (by decide) dX12_image_31 ?_
      refine r_iload_n C hl (kx := 1) rfl rfl dX12_image_34 ?_
      refine r_iconst C dX12_image_35 ?_
      refine r_iadd C dX12_image_36 ?_
      refine r_imul C dX12_image_37 ?_
      refine r_iload_n C hl (kx := 2) rfl rfl dX12_image_38 ?_
      refine r_iadd C dX12_image_39 ?_
      refine r_aload_n C hl (kx := 0) rfl rfl dX12_image_40 ?_
      refine gf_12_13 C hw t0 dX12_image_41 ?_
      refine r_iload_n C hl (kx := 2) rfl rfl dX12_image_44 ?_
      obtain ⟨g5, hf⟩ := gd_some hf
      refine r_iald C hw (n := 3300) (ow_12_1 t0) (j := (nrm x2)) rfl g5 (by decide) dX12_image_45 ?_
      obtain ⟨g8, hf⟩ := gd_some hf
      obtain ⟨μ6, e7, hf⟩ := nm_some hf
      refine r_iast C hw (n := 3300) (ow_12_1 t0) (j := (nrm ((1100 * (x1 + 1)) + x2))) rfl g8 (by decide) dX12_image_46 (fun H locs hw => ?_)
      rw [← e7] at hw
      refine r_iinc C hl (kx := 2) rfl (by decide) (L' := [(2, 0, (x2 + 1)), (0, 2, x0), (1, 0, x1)]) rfl dX12_image_47 (fun ls hl => ?_)
      refine r_goto C (tgt := 20) (by decide) dX12_image_50 ?_
      exact ih _ _ _ _ _ _ _ hf t0 hw (lvh_sub hl [1, 2, 0] rfl)
set_option maxHeartbeats 4000000 in
set_option maxRecDepth 20000 in
theorem w_X12_image_0 (C : Cx p s m args meth c D b cX12_image 3 RX12 (some .int)) {r : Int} {μ' : Mem} {x0 x1 : Int} {μ : Mem} {H : Heap} {locs : List Loc} {ls : Array Slot} (hf : f_X12_image x0 x1 μ = some (r, μ')) (t0 : isK x0 12) (hw : Hw D b μ s.heap H locs) (hl : lvh b ls 3 [(0, 2, x0), (1, 0, x1)]) : W p l e (rm 1) s m args below meth c H locs 0 0 (QM below args s D b (some (.int (jI r))) μ') (F0 m 0 ls []) := by
  unfold f_X12_image at hf
  refine r_aload_n C hl (kx := 0) rfl rfl dX12_image_0 ?_
  refine r_iconst C dX12_image_1 ?_
  obtain ⟨μ1, e2, hf⟩ := nm_some hf
  refine pf_12_1 C hw t0 dX12_image_2 (fun H locs hw => ?_)
  rw [← e2] at hw
  refine r_iload_n C hl (kx := 1) rfl rfl dX12_image_5 ?_
  refine r_i2l C dX12_image_6 ?_
  refine r_lconst C (z := 0) (by decide) dX12_image_7 ?_
  refine r_lconst C (z := 1) (by decide) dX12_image_8 ?_
  obtain ⟨r4, μ3, e5, hf⟩ := bn_some hf
  refine r_callSv C hw (K := [(1, (nrm x1)), (1, 0), (1, 1)]) (c_X12_within l D b e5) mi_X12_within st_X12_within kl_12_136 rfl rfl (lvh_sz hl) (by decide) (Kr := []) rfl (Nat.le_of_ble_eq_true rfl) dX12_image_9 (fun H locs hw => ?_)
  refine r_if_ne C (tgt := 18) (by decide) dX12_image_12 (fun c6 => ?_) (fun c6 => ?_)
  · have hf := ite_f c6 hf
    refine r_iconst C dX12_image_18 ?_
    refine r_istore_n C hl (by decide) (L' := [(2, 0, 0), (0, 2, x0), (1, 0, x1)]) rfl rfl dX12_image_19 (fun ls hl => ?_)
    exact w_X12_image_20 C FU _ _ _ _ _ _ _ hf t0 hw (lvh_sub hl [1, 2, 0] rfl)
  · have hf := ite_t c6 hf
    refine r_bipush C (by decide) dX12_image_15 ?_
    exact r_iret C hw hf dX12_image_17
theorem c_X12_image (l : Launch) (D : Ds) (b : Nat) {x0 x1 : Int} {μ μ' : Mem} {r : Int} (t0 : isK x0 12) (hf : f_X12_image x0 x1 μ = some (r, μ')) : Ctr l D b yX12_image cX12_image 3 (some .int) 1 [(2, x0), (0, x1)] μ (some (.int (jI r))) μ' := by
  refine Ctr.of (by decide +kernel) (Nat.le_of_ble_eq_true rfl) ?_
  intro p e s m below meth c C hw ls hl
  exact w_X12_image_0 C hf t0 hw hl
set_option maxHeartbeats 4000000 in
set_option maxRecDepth 20000 in
theorem w_X12_restore_32 (C : Cx p s m args meth c D b cX12_restore 3 RX12 (some .int)) {r : Int} {μ' : Mem} : ∀ (n : Nat) (x0 x1 x2 : Int) (μ : Mem) (H : Heap) (locs : List Loc) (ls : Array Slot), f_X12_restore_w32 n x0 x1 x2 μ = some (r, μ') → isK x0 12 → Hw D b μ s.heap H locs → lvh b ls 3 [(0, 2, x0), (1, 0, x1), (2, 0, x2)] → W p l e (rm 1) s m args below meth c H locs 0 0 (QM below args s D b (some (.int (jI r))) μ') (F0 m 32 ls []) := by
  intro n
  induction n with
  | zero => intro x0 x1 x2 μ H locs ls hf; cases hf
  | succ n ih =>
    intro x0 x1 x2 μ H locs ls hf t0 hw hl
    rw [f_X12_restore_w32.eq_2] at hf
    refine r_iload_n C hl (kx := 2) rfl rfl dX12_restore_32 ?_
    refine r_sipush C (by decide) dX12_restore_33 ?_
    refine r_icmp_ge C (tgt := 65) (by decide) dX12_restore_36 (fun c1 => ?_) (fun c1 => ?_)
    · have hf := ite_t c1 hf
      refine r_aload_n C hl (kx := 0) rfl rfl dX12_restore_65 ?_
      refine gf_12_13 C hw t0 dX12_restore_66 ?_
      refine r_bipush C (by decide) dX12_restore_69 ?_
      refine r_iconst C dX12_restore_71 ?_
      obtain ⟨μ2, e3, hf⟩ := nm_some hf
      refine r_iast C hw (n := 3300) (ow_12_1 t0) (j := 68) (by decide) (by decide) (by decide) dX12_restore_72 (fun H locs hw => ?_)
      rw [← e3] at hw
      refine r_iconst C dX12_restore_73 ?_
      exact r_iret C hw hf dX12_restore_74
    · have hf := ite_f c1 hf
      refine r_aload_n C hl (kx := 0) rfl rfl dX12_restore_39 ?_
      refine gf_12_13 C hw t0 dX12_restore_40 ?_
      refine r_iload_n C hl (kx := 2) rfl rfl dX12_restore_43 ?_
      refine r_aload_n C hl (kx := 0) rfl rfl dX12_restore_44 ?_
      refine gf_12_13 C hw t0 dX12_restore_45 ?_
      refine r_sipush C (by decide) dX12_restore_48 ?_
      refine r_iload_n C hl (kx := 1) rfl rfl dX12_restore_51 ?_
      refine r_iconst C dX12_restore_52 ?_
      refine r_iadd C dX12_restore_53 ?_
      refine r_imul C dX12_restore_54 ?_
      refine r_iload_n C hl (kx := 2) rfl rfl dX12_restore_55 ?_
      refine r_iadd C dX12_restore_56 ?_
      obtain ⟨g4, hf⟩ := gd_some hf
      refine r_iald C hw (n := 3300) (ow_12_1 t0) (j := (nrm ((1100 * (x1 + 1)) + x2))) rfl g4 (by decide) dX12_restore_57 ?_
      obtain ⟨g7, hf⟩ := gd_some hf
      obtain ⟨μ5, e6, hf⟩ := nm_some hf
      refine r_iast C hw (n := 3300) (ow_12_1 t0) (j := (nrm x2)) rfl g7 (by decide) dX12_restore_58 (fun H locs hw => ?_)
      rw [← e6] at hw
      refine r_iinc C hl (kx := 2) rfl (by decide) (L' := [(2, 0, (x2 + 1)), (0, 2, x0), (1, 0, x1)]) rfl dX12_restore_59 (fun ls hl => ?_)
      refine r_goto C (tgt := 32) (by decide) dX12_restore_62 ?_
      exact ih _ _ _ _ _ _ _ hf t0 hw (lvh_sub hl [1, 2, 0] rfl)
set_option maxHeartbeats 4000000 in
set_option maxRecDepth 20000 in
theorem w_X12_restore_0 (C : Cx p s m args meth c D b cX12_restore 3 RX12 (some .int)) {r : Int} {μ' : Mem} {x0 x1 : Int} {μ : Mem} {H : Heap} {locs : List Loc} {ls : Array Slot} (hf : f_X12_restore x0 x1 μ = some (r, μ')) (t0 : isK x0 12) (hw : Hw D b μ s.heap H locs) (hl : lvh b ls 3 [(0, 2, x0), (1, 0, x1)]) : W p l e (rm 1) s m args below meth c H locs 0 0 (QM below args s D b (some (.int (jI r))) μ') (F0 m 0 ls []) := by
  unfold f_X12_restore at hf
  refine r_aload_n C hl (kx := 0) rfl rfl dX12_restore_0 ?_
  refine r_iconst C dX12_restore_1 ?_
  obtain ⟨μ1, e2, hf⟩ := nm_some hf
  refine pf_12_1 C hw t0 dX12_restore_2 (fun H locs hw => ?_)
  rw [← e2] at hw
  refine r_iload_n C hl (kx := 1) rfl rfl dX12_restore_5 ?_
  refine r_i2l C dX12_restore_6 ?_
  refine r_lconst C (z := 0) (by decide) dX12_restore_7 ?_
  refine r_lconst C (z := 1) (by decide) dX12_restore_8 ?_
  obtain ⟨r4, μ3, e5, hf⟩ := bn_some hf
  refine r_callSv C hw (K := [(1, (nrm x1)), (1, 0), (1, 1)]) (c_X12_within l D b e5) mi_X12_within st_X12_within kl_12_136 rfl rfl (lvh_sz hl) (by decide) (Kr := []) rfl (Nat.le_of_ble_eq_true rfl) dX12_restore_9 (fun H locs hw => ?_)
  refine r_if_ne C (tgt := 18) (by decide) dX12_restore_12 (fun c6 => ?_) (fun c6 => ?_)
  · have hf := ite_f c6 hf
    refine r_aload_n C hl (kx := 0) rfl rfl dX12_restore_18 ?_
    refine gf_12_17 C hw t0 dX12_restore_19 ?_
    refine r_iload_n C hl (kx := 1) rfl rfl dX12_restore_22 ?_
    obtain ⟨g7, hf⟩ := gd_some hf
    refine r_zald C hw (n := 2) (ow_12_2 t0) (j := (nrm x1)) rfl g7 (by decide) dX12_restore_23 ?_
    refine r_if_ne C (tgt := 30) (by decide) dX12_restore_24 (fun c8 => ?_) (fun c8 => ?_)
    · have hf := ite_f c8 hf
      refine r_iconst C dX12_restore_30 ?_
      refine r_istore_n C hl (by decide) (L' := [(2, 0, 0), (0, 2, x0), (1, 0, x1)]) rfl rfl dX12_restore_31 (fun ls hl => ?_)
      exact w_X12_restore_32 C FU _ _ _ _ _ _ _ hf t0 hw (lvh_sub hl [1, 2, 0] rfl)
    · have hf := ite_t c8 hf
      refine r_bipush C (by decide) dX12_restore_27 ?_
      exact r_iret C hw hf dX12_restore_29
  · have hf := ite_t c6 hf
    refine r_bipush C (by decide) dX12_restore_15 ?_
    exact r_iret C hw hf dX12_restore_17
theorem c_X12_restore (l : Launch) (D : Ds) (b : Nat) {x0 x1 : Int} {μ μ' : Mem} {r : Int} (t0 : isK x0 12) (hf : f_X12_restore x0 x1 μ = some (r, μ')) : Ctr l D b yX12_restore cX12_restore 3 (some .int) 1 [(2, x0), (0, x1)] μ (some (.int (jI r))) μ' := by
  refine Ctr.of (by decide +kernel) (Nat.le_of_ble_eq_true rfl) ?_
  intro p e s m below meth c C hw ls hl
  exact w_X12_restore_0 C hf t0 hw hl
set_option maxHeartbeats 4000000 in
set_option maxRecDepth 20000 in
theorem w_X12_count_0 (C : Cx p s m args meth c D b cX12_count 2 RX12 (some .int)) {r : Int} {μ' : Mem} {x0 x1 : Int} {μ : Mem} {H : Heap} {locs : List Loc} {ls : Array Slot} (hf : f_X12_count x0 x1 μ = some (r, μ')) (t0 : isK x0 12) (hw : Hw D b μ s.heap H locs) (hl : lvh b ls 2 [(0, 2, x0), (1, 0, x1)]) : W p l e (rm 1) s m args below meth c H locs 0 0 (QM below args s D b (some (.int (jI r))) μ') (F0 m 0 ls []) := by
  unfold f_X12_count at hf
  refine r_aload_n C hl (kx := 0) rfl rfl dX12_count_0 ?_
  refine r_iconst C dX12_count_1 ?_
  obtain ⟨μ1, e2, hf⟩ := nm_some hf
  refine pf_12_1 C hw t0 dX12_count_2 (fun H locs hw => ?_)
  rw [← e2] at hw
  refine r_iload_n C hl (kx := 1) rfl rfl dX12_count_5 ?_
  rcases Decidable.em (nrm x1 = 0) with c3 | c3
  · have hf := ite_t c3 hf
    refine r_tabIn C (tgt := 68) c3 (by decide) (by decide) rfl (by decide) dX12_count_6 ?_
    refine r_aload_n C hl (kx := 0) rfl rfl dX12_count_68 ?_
    refine gf_12_13 C hw t0 dX12_count_69 ?_
    refine r_iconst C dX12_count_72 ?_
    refine r_iald C hw (n := 3300) (ow_12_1 t0) (j := 1) (by decide) (by decide) (by decide) dX12_count_73 ?_
    exact r_iret C hw hf dX12_count_74
  have hf := ite_f c3 hf
  rcases Decidable.em (nrm x1 = 1) with c4 | c4
  · have hf := ite_t c4 hf
    refine r_tabIn C (tgt := 75) c4 (by decide) (by decide) rfl (by decide) dX12_count_6 ?_
    refine r_aload_n C hl (kx := 0) rfl rfl dX12_count_75 ?_
    refine gf_12_13 C hw t0 dX12_count_76 ?_
    refine r_iconst C dX12_count_79 ?_
    refine r_iald C hw (n := 3300) (ow_12_1 t0) (j := 2) (by decide) (by decide) (by decide) dX12_count_80 ?_
    exact r_iret C hw hf dX12_count_81
  have hf := ite_f c4 hf
  rcases Decidable.em (nrm x1 = 2) with c5 | c5
  · have hf := ite_t c5 hf
    refine r_tabIn C (tgt := 82) c5 (by decide) (by decide) rfl (by decide) dX12_count_6 ?_
    refine r_aload_n C hl (kx := 0) rfl rfl dX12_count_82 ?_
    refine gf_12_13 C hw t0 dX12_count_83 ?_
    refine r_iconst C dX12_count_86 ?_
    refine r_iald C hw (n := 3300) (ow_12_1 t0) (j := 3) (by decide) (by decide) (by decide) dX12_count_87 ?_
    exact r_iret C hw hf dX12_count_88
  have hf := ite_f c5 hf
  rcases Decidable.em (nrm x1 = 3) with c6 | c6
  · have hf := ite_t c6 hf
    refine r_tabIn C (tgt := 89) c6 (by decide) (by decide) rfl (by decide) dX12_count_6 ?_
    refine r_aload_n C hl (kx := 0) rfl rfl dX12_count_89 ?_
    refine gf_12_13 C hw t0 dX12_count_90 ?_
    refine r_bipush C (by decide) dX12_count_93 ?_
    refine r_iald C hw (n := 3300) (ow_12_1 t0) (j := 55) (by decide) (by decide) (by decide) dX12_count_95 ?_
    exact r_iret C hw hf dX12_count_96
  have hf := ite_f c6 hf
  rcases Decidable.em (nrm x1 = 4) with c7 | c7
  · have hf := ite_t c7 hf
    refine r_tabIn C (tgt := 97) c7 (by decide) (by decide) rfl (by decide) dX12_count_6 ?_
    refine r_aload_n C hl (kx := 0) rfl rfl dX12_count_97 ?_
    refine gf_12_13 C hw t0 dX12_count_98 ?_
    refine r_iconst C dX12_count_101 ?_
    refine r_iald C hw (n := 3300) (ow_12_1 t0) (j := 4) (by decide) (by decide) (by decide) dX12_count_102 ?_
    exact r_iret C hw hf dX12_count_103
  have hf := ite_f c7 hf
  rcases Decidable.em (nrm x1 = 5) with c8 | c8
  · have hf := ite_t c8 hf
    refine r_tabIn C (tgt := 104) c8 (by decide) (by decide) rfl (by decide) dX12_count_6 ?_
    refine r_aload_n C hl (kx := 0) rfl rfl dX12_count_104 ?_
    refine gf_12_13 C hw t0 dX12_count_105 ?_
    refine r_bipush C (by decide) dX12_count_108 ?_
    refine r_iald C hw (n := 3300) (ow_12_1 t0) (j := 66) (by decide) (by decide) (by decide) dX12_count_110 ?_
    exact r_iret C hw hf dX12_count_111
  have hf := ite_f c8 hf
  rcases Decidable.em (nrm x1 = 6) with c9 | c9
  · have hf := ite_t c9 hf
    refine r_tabIn C (tgt := 112) c9 (by decide) (by decide) rfl (by decide) dX12_count_6 ?_
    refine r_aload_n C hl (kx := 0) rfl rfl dX12_count_112 ?_
    refine gf_12_13 C hw t0 dX12_count_113 ?_
    refine r_bipush C (by decide) dX12_count_116 ?_
    refine r_iald C hw (n := 3300) (ow_12_1 t0) (j := 65) (by decide) (by decide) (by decide) dX12_count_118 ?_
    exact r_iret C hw hf dX12_count_119
  have hf := ite_f c9 hf
  rcases Decidable.em (nrm x1 = 7) with c10 | c10
  · have hf := ite_t c10 hf
    refine r_tabIn C (tgt := 120) c10 (by decide) (by decide) rfl (by decide) dX12_count_6 ?_
    refine r_aload_n C hl (kx := 0) rfl rfl dX12_count_120 ?_
    obtain ⟨r12, μ11, e13, hf⟩ := bn_some hf
    refine r_callVv C hw (K := []) ok12 t0 (c_X12_depthSum l D b t0 e13) mi_X12_depthSum in_X12_depthSum se_X12_depthSum kl_12_305 rfl rfl (lvh_sz hl) (by decide) (Kr := []) rfl (Nat.le_of_ble_eq_true rfl) dX12_count_121 (fun H locs hw => ?_)
    exact r_iret C hw hf dX12_count_124
  have hf := ite_f c10 hf
  rcases Decidable.em (nrm x1 = 8) with c14 | c14
  · have hf := ite_t c14 hf
    refine r_tabIn C (tgt := 125) c14 (by decide) (by decide) rfl (by decide) dX12_count_6 ?_
    refine r_aload_n C hl (kx := 0) rfl rfl dX12_count_125 ?_
    refine gf_12_13 C hw t0 dX12_count_126 ?_
    refine r_bipush C (by decide) dX12_count_129 ?_
    refine r_iald C hw (n := 3300) (ow_12_1 t0) (j := 67) (by decide) (by decide) (by decide) dX12_count_131 ?_
    exact r_iret C hw hf dX12_count_132
  have hf := ite_f c14 hf
  rcases Decidable.em (nrm x1 = 9) with c15 | c15
  · have hf := ite_t c15 hf
    refine r_tabIn C (tgt := 133) c15 (by decide) (by decide) rfl (by decide) dX12_count_6 ?_
    refine r_aload_n C hl (kx := 0) rfl rfl dX12_count_133 ?_
    refine gf_12_13 C hw t0 dX12_count_134 ?_
    refine r_bipush C (by decide) dX12_count_137 ?_
    refine r_iald C hw (n := 3300) (ow_12_1 t0) (j := 68) (by decide) (by decide) (by decide) dX12_count_139 ?_
    exact r_iret C hw hf dX12_count_140
  have hf := ite_f c15 hf
  rcases Decidable.em (nrm x1 = 10) with c16 | c16
  · have hf := ite_t c16 hf
    refine r_tabIn C (tgt := 141) c16 (by decide) (by decide) rfl (by decide) dX12_count_6 ?_
    refine r_aload_n C hl (kx := 0) rfl rfl dX12_count_141 ?_
    refine gf_12_74 C hw t0 dX12_count_142 ?_
    exact r_iret C hw hf dX12_count_145
  have hf := ite_f c16 hf
  rcases Decidable.em (nrm x1 = 11) with c17 | c17
  · have hf := ite_t c17 hf
    refine r_tabIn C (tgt := 146) c17 (by decide) (by decide) rfl (by decide) dX12_count_6 ?_
    refine r_aload_n C hl (kx := 0) rfl rfl dX12_count_146 ?_
    refine gf_12_13 C hw t0 dX12_count_147 ?_
    refine r_iconst C dX12_count_150 ?_
    refine r_iald C hw (n := 3300) (ow_12_1 t0) (j := 0) (by decide) (by decide) (by decide) dX12_count_151 ?_
    exact r_iret C hw hf dX12_count_152
  have hf := ite_f c17 hf
  refine r_tabOut C (tgt := 153) (by omega) (by decide) dX12_count_6 ?_
  refine r_iconst C dX12_count_153 ?_
  exact r_iret C hw hf dX12_count_154
theorem c_X12_count (l : Launch) (D : Ds) (b : Nat) {x0 x1 : Int} {μ μ' : Mem} {r : Int} (t0 : isK x0 12) (hf : f_X12_count x0 x1 μ = some (r, μ')) : Ctr l D b yX12_count cX12_count 2 (some .int) 1 [(2, x0), (0, x1)] μ (some (.int (jI r))) μ' := by
  refine Ctr.of (by decide +kernel) (Nat.le_of_ble_eq_true rfl) ?_
  intro p e s m below meth c C hw ls hl
  exact w_X12_count_0 C hf t0 hw hl
end WALK
