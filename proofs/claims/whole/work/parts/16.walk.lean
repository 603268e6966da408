section WALK
variable {p : Program} {l : Launch} {e : Env} {s : State} {m : MethodId} {args : Array Value} {below : List Frame} {meth : Method} {c : Code} {H : Heap} {locs : List Loc} {D : Ds} {b : Nat} {n0 : Nat}
set_option maxHeartbeats 4000000 in
set_option maxRecDepth 20000 in
theorem w_X12_readFlag_83 (C : Cx p s m args meth c D b cX12_readFlag 2 RX12 (some .boolean)) {r : Int} {μ' : Mem} {x0 : Int} {μ : Mem} {H : Heap} {locs : List Loc} {ls : Array Slot} (hf : f_X12_readFlag_j83 x0 μ = some (r, μ')) (t0 : isK x0 12) (hw : Hw D b μ s.heap H locs) (hl : lvh b ls 2 [(0, 2, x0)]) : W p l e (rm 10) s m args below meth c H locs 0 0 (QM below args s D b (some (.int (jI r))) μ') (F0 m 83 ls []) := by
  unfold f_X12_readFlag_j83 at hf
  refine r_aload_n C hl (kx := 0) rfl rfl dX12_readFlag_83 ?_
  refine gf_12_120 C hw t0 dX12_readFlag_84 ?_
  refine r_if_ne C (tgt := 94) (by decide) dX12_readFlag_87 (fun c1 => ?_) (fun c1 => ?_)
  · have hf := ite_f c1 hf
    refine r_iconst C dX12_readFlag_94 ?_
    exact r_zret C hw (by decide) hf dX12_readFlag_95
  · have hf := ite_t c1 hf
    refine r_iconst C dX12_readFlag_90 ?_
    refine r_goto C (tgt := 95) (by decide) dX12_readFlag_91 ?_
    exact r_zret C hw (by decide) hf dX12_readFlag_95
set_option maxHeartbeats 4000000 in
set_option maxRecDepth 20000 in
theorem w_X12_readFlag_0 (C : Cx p s m args meth c D b cX12_readFlag 2 RX12 (some .boolean)) {r : Int} {μ' : Mem} {x0 x1 : Int} {μ : Mem} {H : Heap} {locs : List Loc} {ls : Array Slot} (hf : f_X12_readFlag x0 x1 μ = some (r, μ')) (t0 : isK x0 12) (hw : Hw D b μ s.heap H locs) (hl : lvh b ls 2 [(0, 2, x0), (1, 0, x1)]) : W p l e (rm 10) s m args below meth c H locs 0 0 (QM below args s D b (some (.int (jI r))) μ') (F0 m 0 ls []) := by
  unfold f_X12_readFlag at hf
  refine r_aload_n C hl (kx := 0) rfl rfl dX12_readFlag_0 ?_
  refine r_iconst C dX12_readFlag_1 ?_
  obtain ⟨r2, μ1, e3, hf⟩ := bn_some hf
  refine r_callVv C hw (K := [(0, 3)]) ok12 t0 (c_X12_eats l D b t0 e3) mi_X12_eats in_X12_eats se_X12_eats kl_12_155 rfl rfl (lvh_sz hl) (by decide) (Kr := []) rfl (Nat.le_of_ble_eq_true rfl) dX12_readFlag_2 (fun H locs hw => ?_)
  refine r_if_eq C (tgt := 27) (by decide) dX12_readFlag_5 (fun c4 => ?_) (fun c4 => ?_)
  · have hf := ite_t c4 hf
    refine r_aload_n C hl (kx := 0) rfl rfl dX12_readFlag_27 ?_
    refine r_iconst C dX12_readFlag_28 ?_
    obtain ⟨r6, μ5, e7, hf⟩ := bn_some hf
    refine r_callVv C hw (K := [(0, 4)]) ok12 t0 (c_X12_eats l D b t0 e7) mi_X12_eats in_X12_eats se_X12_eats kl_12_155 rfl rfl (lvh_sz hl) (by decide) (Kr := []) rfl (Nat.le_of_ble_eq_true rfl) dX12_readFlag_29 (fun H locs hw => ?_)
    refine r_if_eq C (tgt := 54) (by decide) dX12_readFlag_32 (fun c8 => ?_) (fun c8 => ?_)
    · have hf := ite_t c8 hf
      refine r_aload_n C hl (kx := 0) rfl rfl dX12_readFlag_54 ?_
      refine r_iconst C dX12_readFlag_55 ?_
      obtain ⟨r10, μ9, e11, hf⟩ := bn_some hf
      refine r_callVv C hw (K := [(0, 5)]) ok12 t0 (c_X12_eats l D b t0 e11) mi_X12_eats in_X12_eats se_X12_eats kl_12_155 rfl rfl (lvh_sz hl) (by decide) (Kr := []) rfl (Nat.le_of_ble_eq_true rfl) dX12_readFlag_56 (fun H locs hw => ?_)
      refine r_if_eq C (tgt := 81) (by decide) dX12_readFlag_59 (fun c12 => ?_) (fun c12 => ?_)
      · have hf := ite_t c12 hf
        refine r_iconst C dX12_readFlag_81 ?_
        exact r_zret C hw (by decide) hf dX12_readFlag_82
      · have hf := ite_f c12 hf
        refine r_aload_n C hl (kx := 0) rfl rfl dX12_readFlag_62 ?_
        refine gf_12_24 C hw t0 dX12_readFlag_63 ?_
        refine r_bipush C (by decide) dX12_readFlag_66 ?_
        refine r_iload_n C hl (kx := 1) rfl rfl dX12_readFlag_68 ?_
        refine r_iadd C dX12_readFlag_69 ?_
        refine r_aload_n C hl (kx := 0) rfl rfl dX12_readFlag_70 ?_
        refine r_iconst C dX12_readFlag_71 ?_
        refine r_bipush C (by decide) dX12_readFlag_72 ?_
        obtain ⟨r14, μ13, e15, hf⟩ := bn_some hf
        refine r_callVv C hw (K := [(0, 0), (0, 10)]) ok12 t0 (c_X12_takes l D b t0 e15) mi_X12_takes in_X12_takes se_X12_takes kl_12_176 rfl rfl (lvh_sz hl) (by decide) (Kr := [(0, (38 + x1)), (2, (x0 + 4))]) rfl (Nat.le_of_ble_eq_true rfl) dX12_readFlag_74 (fun H locs hw => ?_)
        obtain ⟨g18, hf⟩ := gd_some hf
        obtain ⟨μ16, e17, hf⟩ := nm_some hf
        refine r_iast C hw (n := 1100) (ow_12_4 t0) (j := (nrm (38 + x1))) rfl g18 (by decide) dX12_readFlag_77 (fun H locs hw => ?_)
        rw [← e17] at hw
        refine r_goto C (tgt := 83) (by decide) dX12_readFlag_78 ?_
        exact w_X12_readFlag_83 C hf t0 hw (lvh_sub hl [0] rfl)
    · have hf := ite_f c8 hf
      refine r_aload_n C hl (kx := 0) rfl rfl dX12_readFlag_35 ?_
      refine gf_12_24 C hw t0 dX12_readFlag_36 ?_
      refine r_bipush C (by decide) dX12_readFlag_39 ?_
      refine r_iload_n C hl (kx := 1) rfl rfl dX12_readFlag_41 ?_
      refine r_iadd C dX12_readFlag_42 ?_
      refine r_aload_n C hl (kx := 0) rfl rfl dX12_readFlag_43 ?_
      refine r_iconst C dX12_readFlag_44 ?_
      refine r_bipush C (by decide) dX12_readFlag_45 ?_
      obtain ⟨r20, μ19, e21, hf⟩ := bn_some hf
      refine r_callVv C hw (K := [(0, 0), (0, 9)]) ok12 t0 (c_X12_takes l D b t0 e21) mi_X12_takes in_X12_takes se_X12_takes kl_12_176 rfl rfl (lvh_sz hl) (by decide) (Kr := [(0, (29 + x1)), (2, (x0 + 4))]) rfl (Nat.le_of_ble_eq_true rfl) dX12_readFlag_47 (fun H locs hw => ?_)
      obtain ⟨g24, hf⟩ := gd_some hf
      obtain ⟨μ22, e23, hf⟩ := nm_some hf
      refine r_iast C hw (n := 1100) (ow_12_4 t0) (j := (nrm (29 + x1))) rfl g24 (by decide) dX12_readFlag_50 (fun H locs hw => ?_)
      rw [← e23] at hw
      refine r_goto C (tgt := 83) (by decide) dX12_readFlag_51 ?_
      exact w_X12_readFlag_83 C hf t0 hw (lvh_sub hl [0] rfl)
  · have hf := ite_f c4 hf
    refine r_aload_n C hl (kx := 0) rfl rfl dX12_readFlag_8 ?_
    refine gf_12_24 C hw t0 dX12_readFlag_9 ?_
    refine r_bipush C (by decide) dX12_readFlag_12 ?_
    refine r_iload_n C hl (kx := 1) rfl rfl dX12_readFlag_14 ?_
    refine r_iadd C dX12_readFlag_15 ?_
    refine r_aload_n C hl (kx := 0) rfl rfl dX12_readFlag_16 ?_
    refine r_iconst C dX12_readFlag_17 ?_
    refine r_bipush C (by decide) dX12_readFlag_18 ?_
    obtain ⟨r26, μ25, e27, hf⟩ := bn_some hf
    refine r_callVv C hw (K := [(0, 0), (0, 6)]) ok12 t0 (c_X12_takes l D b t0 e27) mi_X12_takes in_X12_takes se_X12_takes kl_12_176 rfl rfl (lvh_sz hl) (by decide) (Kr := [(0, (56 + x1)), (2, (x0 + 4))]) rfl (Nat.le_of_ble_eq_true rfl) dX12_readFlag_20 (fun H locs hw => ?_)
    obtain ⟨g30, hf⟩ := gd_some hf
    obtain ⟨μ28, e29, hf⟩ := nm_some hf
    refine r_iast C hw (n := 1100) (ow_12_4 t0) (j := (nrm (56 + x1))) rfl g30 (by decide) dX12_readFlag_23 (fun H locs hw => ?_)
    rw [← e29] at hw
    refine r_goto C (tgt := 83) (by decide) dX12_readFlag_24 ?_
    exact w_X12_readFlag_83 C hf t0 hw (lvh_sub hl [0] rfl)
theorem c_X12_readFlag (l : Launch) (D : Ds) (b : Nat) {x0 x1 : Int} {μ μ' : Mem} {r : Int} (t0 : isK x0 12) (hf : f_X12_readFlag x0 x1 μ = some (r, μ')) : Ctr l D b yX12_readFlag cX12_readFlag 2 (some .boolean) 10 [(2, x0), (0, x1)] μ (some (.int (jI r))) μ' := by
  refine Ctr.of (by decide +kernel) (Nat.le_of_ble_eq_true rfl) ?_
  intro p e s m below meth c C hw ls hl
  exact w_X12_readFlag_0 C hf t0 hw hl
set_option maxHeartbeats 4000000 in
set_option maxRecDepth 20000 in
theorem w_X12_readLane_122 (C : Cx p s m args meth c D b cX12_readLane 2 RX12 (none)) {r : Int} {μ' : Mem} {x0 : Int} {μ : Mem} {H : Heap} {locs : List Loc} {ls : Array Slot} (hf : f_X12_readLane_j122 x0 μ = some (r, μ')) (t0 : isK x0 12) (hw : Hw D b μ s.heap H locs) (hl : lvh b ls 2 [(0, 2, x0)]) : W p l e (rm 11) s m args below meth c H locs 0 0 (QM below args s D b none μ') (F0 m 122 ls []) := by
  unfold f_X12_readLane_j122 at hf
  refine r_aload_n C hl (kx := 0) rfl rfl dX12_readLane_122 ?_
  refine gf_12_120 C hw t0 dX12_readLane_123 ?_
  refine r_if_ne C (tgt := 139) (by decide) dX12_readLane_126 (fun c1 => ?_) (fun c1 => ?_)
  · have hf := ite_f c1 hf
    exact r_vret C hw hf dX12_readLane_139
  · have hf := ite_t c1 hf
    refine r_aload_n C hl (kx := 0) rfl rfl dX12_readLane_129 ?_
    refine gf_12_24 C hw t0 dX12_readLane_130 ?_
    refine r_iconst C dX12_readLane_133 ?_
    refine r_dup2 C rfl (rfv_cat _ _) dX12_readLane_134 ?_
    refine r_iald C hw (n := 1100) (ow_12_4 t0) (j := 2) (by decide) (by decide) (by decide) dX12_readLane_135 ?_
    refine r_iconst C dX12_readLane_136 ?_
    refine r_iadd C dX12_readLane_137 ?_
    obtain ⟨μ2, e3, hf⟩ := nm_some hf
    refine r_iast C hw (n := 1100) (ow_12_4 t0) (j := 2) (by decide) (by decide) (by decide) dX12_readLane_138 (fun H locs hw => ?_)
    rw [← e3] at hw
    exact r_vret C hw hf dX12_readLane_139
set_option maxHeartbeats 4000000 in
set_option maxRecDepth 20000 in
theorem w_X12_readLane_104 (C : Cx p s m args meth c D b cX12_readLane 2 RX12 (none)) {r : Int} {μ' : Mem} : ∀ (n : Nat) (x0 x1 : Int) (μ : Mem) (H : Heap) (locs : List Loc) (ls : Array Slot), f_X12_readLane_w104 n x0 x1 μ = some (r, μ') → isK x0 12 → Hw D b μ s.heap H locs → lvh b ls 2 [(0, 2, x0), (1, 0, x1)] → W p l e (rm 11) s m args below meth c H locs 0 0 (QM below args s D b none μ') (F0 m 104 ls []) := by
  intro n
  induction n with
  | zero => intro x0 x1 μ H locs ls hf; cases hf
  | succ n ih =>
    intro x0 x1 μ H locs ls hf t0 hw hl
    rw [f_X12_readLane_w104.eq_2] at hf
    refine r_aload_n C hl (kx := 0) rfl rfl dX12_readLane_104 ?_
    refine gf_12_120 C hw t0 dX12_readLane_105 ?_
    refine r_if_ne C (tgt := 122) (by decide) dX12_readLane_108 (fun c1 => ?_) (fun c1 => ?_)
    · have hf := ite_f c1 hf
      exact w_X12_readLane_122 C hf t0 hw (lvh_sub hl [0] rfl)
    · have hf := ite_t c1 hf
      refine r_aload_n C hl (kx := 0) rfl rfl dX12_readLane_111 ?_
      refine r_iload_n C hl (kx := 1) rfl rfl dX12_readLane_112 ?_
      obtain ⟨r3, μ2, e4, hf⟩ := bn_some hf
      refine r_callVv C hw (K := [(0, x1)]) ok12 t0 (c_X12_readFlag l D b t0 e4) mi_X12_readFlag in_X12_readFlag se_X12_readFlag kl_12_180 rfl rfl (lvh_sz hl) (by decide) (Kr := []) rfl (Nat.le_of_ble_eq_true rfl) dX12_readLane_113 (fun H locs hw => ?_)
      refine r_if_eq C (tgt := 122) (by decide) dX12_readLane_116 (fun c5 => ?_) (fun c5 => ?_)
      · have hf := ite_t c5 hf
        exact w_X12_readLane_122 C hf t0 hw (lvh_sub hl [0] rfl)
      · have hf := ite_f c5 hf
        refine r_goto C (tgt := 104) (by decide) dX12_readLane_119 ?_
        exact ih _ _ _ _ _ _ hf t0 hw (lvh_sub hl [0, 1] rfl)
set_option maxHeartbeats 4000000 in
set_option maxRecDepth 20000 in
theorem w_X12_readLane_82 (C : Cx p s m args meth c D b cX12_readLane 2 RX12 (none)) {r : Int} {μ' : Mem} {x0 x1 : Int} {μ : Mem} {H : Heap} {locs : List Loc} {ls : Array Slot} (hf : f_X12_readLane_j82 x0 x1 μ = some (r, μ')) (t0 : isK x0 12) (hw : Hw D b μ s.heap H locs) (hl : lvh b ls 2 [(0, 2, x0), (1, 0, x1)]) : W p l e (rm 11) s m args below meth c H locs 0 0 (QM below args s D b none μ') (F0 m 82 ls []) := by
  unfold f_X12_readLane_j82 at hf
  refine r_aload_n C hl (kx := 0) rfl rfl dX12_readLane_82 ?_
  refine gf_12_24 C hw t0 dX12_readLane_83 ?_
  refine r_bipush C (by decide) dX12_readLane_86 ?_
  refine r_iload_n C hl (kx := 1) rfl rfl dX12_readLane_88 ?_
  refine r_iadd C dX12_readLane_89 ?_
  refine r_aload_n C hl (kx := 0) rfl rfl dX12_readLane_90 ?_
  refine r_iconst C dX12_readLane_91 ?_
  refine r_aload_n C hl (kx := 0) rfl rfl dX12_readLane_92 ?_
  refine gf_12_24 C hw t0 dX12_readLane_93 ?_
  refine r_iconst C dX12_readLane_96 ?_
  refine r_iald C hw (n := 1100) (ow_12_4 t0) (j := 1) (by decide) (by decide) (by decide) dX12_readLane_97 ?_
  refine r_iconst C dX12_readLane_98 ?_
  refine r_isub C dX12_readLane_99 ?_
  obtain ⟨r2, μ1, e3, hf⟩ := bn_some hf
  refine r_callVv C hw (K := [(0, 0), (0, ((μ (x0 + 4) 1) - 1))]) ok12 t0 (c_X12_takes l D b t0 e3) mi_X12_takes in_X12_takes se_X12_takes kl_12_176 rfl rfl (lvh_sz hl) (by decide) (Kr := [(0, (20 + x1)), (2, (x0 + 4))]) rfl (Nat.le_of_ble_eq_true rfl) dX12_readLane_100 (fun H locs hw => ?_)
  obtain ⟨g6, hf⟩ := gd_some hf
  obtain ⟨μ4, e5, hf⟩ := nm_some hf
  refine r_iast C hw (n := 1100) (ow_12_4 t0) (j := (nrm (20 + x1))) rfl g6 (by decide) dX12_readLane_103 (fun H locs hw => ?_)
  rw [← e5] at hw
  exact w_X12_readLane_104 C FU _ _ _ _ _ _ hf t0 hw (lvh_sub hl [0, 1] rfl)
set_option maxHeartbeats 4000000 in
set_option maxRecDepth 20000 in
theorem w_X12_readLane_18 (C : Cx p s m args meth c D b cX12_readLane 2 RX12 (none)) {r : Int} {μ' : Mem} {x0 x1 : Int} {μ : Mem} {H : Heap} {locs : List Loc} {ls : Array Slot} (hf : f_X12_readLane_j18 x0 x1 μ = some (r, μ')) (t0 : isK x0 12) (hw : Hw D b μ s.heap H locs) (hl : lvh b ls 2 [(0, 2, x0), (1, 0, x1)]) : W p l e (rm 11) s m args below meth c H locs 0 0 (QM below args s D b none μ') (F0 m 18 ls []) := by
  unfold f_X12_readLane_j18 at hf
  refine r_aload_n C hl (kx := 0) rfl rfl dX12_readLane_18 ?_
  refine gf_12_120 C hw t0 dX12_readLane_19 ?_
  refine r_if_eq C (tgt := 26) (by decide) dX12_readLane_22 (fun c1 => ?_) (fun c1 => ?_)
  · have hf := ite_t c1 hf
    refine r_aload_n C hl (kx := 0) rfl rfl dX12_readLane_26 ?_
    obtain ⟨r3, μ2, e4, hf⟩ := bn_some hf
    refine r_callVn C hw (K := []) ok12 t0 (c_X12_next l D b t0 e4) mi_X12_next in_X12_next se_X12_next kl_12_129 rfl rfl (lvh_sz hl) (by decide) (Kr := []) rfl (Nat.le_of_ble_eq_true rfl) dX12_readLane_27 (fun H locs hw => ?_)
    refine r_aload_n C hl (kx := 0) rfl rfl dX12_readLane_30 ?_
    refine gf_12_24 C hw t0 dX12_readLane_31 ?_
    refine r_bipush C (by decide) dX12_readLane_34 ?_
    refine r_iload_n C hl (kx := 1) rfl rfl dX12_readLane_36 ?_
    refine r_iadd C dX12_readLane_37 ?_
    refine r_aload_n C hl (kx := 0) rfl rfl dX12_readLane_38 ?_
    refine r_iconst C dX12_readLane_39 ?_
    refine r_aload_n C hl (kx := 0) rfl rfl dX12_readLane_40 ?_
    refine gf_12_24 C hw t0 dX12_readLane_41 ?_
    refine r_iconst C dX12_readLane_44 ?_
    refine r_iald C hw (n := 1100) (ow_12_4 t0) (j := 1) (by decide) (by decide) (by decide) dX12_readLane_45 ?_
    refine r_iconst C dX12_readLane_46 ?_
    refine r_isub C dX12_readLane_47 ?_
    obtain ⟨r6, μ5, e7, hf⟩ := bn_some hf
    refine r_callVv C hw (K := [(0, 0), (0, ((μ2 (x0 + 4) 1) - 1))]) ok12 t0 (c_X12_takes l D b t0 e7) mi_X12_takes in_X12_takes se_X12_takes kl_12_176 rfl rfl (lvh_sz hl) (by decide) (Kr := [(0, (11 + x1)), (2, (x0 + 4))]) rfl (Nat.le_of_ble_eq_true rfl) dX12_readLane_48 (fun H locs hw => ?_)
    obtain ⟨g10, hf⟩ := gd_some hf
    obtain ⟨μ8, e9, hf⟩ := nm_some hf
    refine r_iast C hw (n := 1100) (ow_12_4 t0) (j := (nrm (11 + x1))) rfl g10 (by decide) dX12_readLane_51 (fun H locs hw => ?_)
    rw [← e9] at hw
    refine r_aload_n C hl (kx := 0) rfl rfl dX12_readLane_52 ?_
    refine r_bipush C (by decide) dX12_readLane_53 ?_
    obtain ⟨r12, μ11, e13, hf⟩ := bn_some hf
    refine r_callVv C hw (K := [(0, 23)]) ok12 t0 (c_X12_is l D b t0 e13) mi_X12_is in_X12_is se_X12_is kl_12_126 rfl rfl (lvh_sz hl) (by decide) (Kr := []) rfl (Nat.le_of_ble_eq_true rfl) dX12_readLane_55 (fun H locs hw => ?_)
    refine r_if_eq C (tgt := 82) (by decide) dX12_readLane_58 (fun c14 => ?_) (fun c14 => ?_)
    · have hf := ite_t c14 hf
      exact w_X12_readLane_82 C hf t0 hw (lvh_sub hl [0, 1] rfl)
    · have hf := ite_f c14 hf
      refine r_aload_n C hl (kx := 0) rfl rfl dX12_readLane_61 ?_
      refine gf_12_115 C hw t0 dX12_readLane_62 ?_
      refine r_aload_n C hl (kx := 0) rfl rfl dX12_readLane_65 ?_
      refine gf_12_24 C hw t0 dX12_readLane_66 ?_
      refine r_bipush C (by decide) dX12_readLane_69 ?_
      refine r_iload_n C hl (kx := 1) rfl rfl dX12_readLane_71 ?_
      refine r_iadd C dX12_readLane_72 ?_
      obtain ⟨g15, hf⟩ := gd_some hf
      refine r_iald C hw (n := 1100) (ow_12_4 t0) (j := (nrm (11 + x1))) rfl g15 (by decide) dX12_readLane_73 ?_
      refine r_icmp_ne C (tgt := 82) (by decide) dX12_readLane_74 (fun c16 => ?_) (fun c16 => ?_)
      · have hf := ite_f c16 hf
        exact w_X12_readLane_82 C hf t0 hw (lvh_sub hl [0, 1] rfl)
      · have hf := ite_t c16 hf
        refine r_aload_n C hl (kx := 0) rfl rfl dX12_readLane_77 ?_
        refine r_iconst C dX12_readLane_78 ?_
        obtain ⟨r18, μ17, e19, hf⟩ := bn_some hf
        refine r_callVn C hw (K := [(0, 3)]) ok12 t0 (c_X12_fails l D b t0 e19) mi_X12_fails in_X12_fails se_X12_fails kl_12_132 rfl rfl (lvh_sz hl) (by decide) (Kr := []) rfl (Nat.le_of_ble_eq_true rfl) dX12_readLane_79 (fun H locs hw => ?_)
        exact w_X12_readLane_82 C hf t0 hw (lvh_sub hl [0, 1] rfl)
  · have hf := ite_f c1 hf
    exact r_vret C hw hf dX12_readLane_25
set_option maxHeartbeats 4000000 in
set_option maxRecDepth 20000 in
theorem w_X12_readLane_0 (C : Cx p s m args meth c D b cX12_readLane 2 RX12 (none)) {r : Int} {μ' : Mem} {x0 : Int} {μ : Mem} {H : Heap} {locs : List Loc} {ls : Array Slot} (hf : f_X12_readLane x0 μ = some (r, μ')) (t0 : isK x0 12) (hw : Hw D b μ s.heap H locs) (hl : lvh b ls 2 [(0, 2, x0)]) : W p l e (rm 11) s m args below meth c H locs 0 0 (QM below args s D b none μ') (F0 m 0 ls []) := by
  unfold f_X12_readLane at hf
  refine r_aload_n C hl (kx := 0) rfl rfl dX12_readLane_0 ?_
  refine gf_12_24 C hw t0 dX12_readLane_1 ?_
  refine r_iconst C dX12_readLane_4 ?_
  refine r_iald C hw (n := 1100) (ow_12_4 t0) (j := 2) (by decide) (by decide) (by decide) dX12_readLane_5 ?_
  obtain ⟨v1, e2, hf⟩ := nm_some hf
  refine top_i e2 ?_
  refine r_istore_n C hl (by decide) (L' := [(1, 0, v1), (0, 2, x0)]) rfl rfl dX12_readLane_6 (fun ls hl => ?_)
  refine r_iload_n C hl (kx := 0) rfl rfl dX12_readLane_7 ?_
  refine r_bipush C (by decide) dX12_readLane_8 ?_
  refine r_icmp_ne C (tgt := 18) (by decide) dX12_readLane_10 (fun c3 => ?_) (fun c3 => ?_)
  · have hf := ite_f c3 hf
    exact w_X12_readLane_18 C hf t0 hw (lvh_sub hl [1, 0] rfl)
  · have hf := ite_t c3 hf
    refine r_aload_n C hl (kx := 1) rfl rfl dX12_readLane_13 ?_
    refine r_iconst C dX12_readLane_14 ?_
    obtain ⟨r5, μ4, e6, hf⟩ := bn_some hf
    refine r_callVn C hw (K := [(0, 4)]) ok12 t0 (c_X12_fails l D b t0 e6) mi_X12_fails in_X12_fails se_X12_fails kl_12_132 rfl rfl (lvh_sz hl) (by decide) (Kr := []) rfl (Nat.le_of_ble_eq_true rfl) dX12_readLane_15 (fun H locs hw => ?_)
    exact w_X12_readLane_18 C hf t0 hw (lvh_sub hl [1, 0] rfl)
theorem c_X12_readLane (l : Launch) (D : Ds) (b : Nat) {x0 : Int} {μ μ' : Mem} {r : Int} (t0 : isK x0 12) (hf : f_X12_readLane x0 μ = some (r, μ')) : Ctr l D b yX12_readLane cX12_readLane 2 (none) 11 [(2, x0)] μ none μ' := by
  refine Ctr.of (by decide +kernel) (Nat.le_of_ble_eq_true rfl) ?_
  intro p e s m below meth c C hw ls hl
  exact w_X12_readLane_0 C hf t0 hw hl
set_option maxHeartbeats 4000000 in
set_option maxRecDepth 20000 in
theorem w_X12_named_13 (C : Cx p s m args meth c D b cX12_named 4 RX12 (some .int)) {r : Int} {μ' : Mem} {x0 x2 x3 : Int} {μ : Mem} {H : Heap} {locs : List Loc} {ls : Array Slot} (hf : f_X12_named_j13 x0 x2 x3 μ = some (r, μ')) (t0 : isK x0 12) (hw : Hw D b μ s.heap H locs) (hl : lvh b ls 4 [(0, 2, x0), (2, 0, x2), (3, 0, x3)]) : W p l e (rm 10) s m args below meth c H locs 0 0 (QM below args s D b (some (.int (jI r))) μ') (F0 m 13 ls []) := by
  unfold f_X12_named_j13 at hf
  refine r_aload_n C hl (kx := 0) rfl rfl dX12_named_13 ?_
  refine r_iload_n C hl (kx := 1) rfl rfl dX12_named_14 ?_
  refine r_iload_n C hl (kx := 2) rfl rfl dX12_named_15 ?_
  obtain ⟨r2, μ1, e3, hf⟩ := bn_some hf
  refine r_callVv C hw (K := [(0, x2), (0, x3)]) ok12 t0 (c_X12_takes l D b t0 e3) mi_X12_takes in_X12_takes se_X12_takes kl_12_176 rfl rfl (lvh_sz hl) (by decide) (Kr := []) rfl (Nat.le_of_ble_eq_true rfl) dX12_named_16 (fun H locs hw => ?_)
  exact r_iret C hw hf dX12_named_19
set_option maxHeartbeats 4000000 in
set_option maxRecDepth 20000 in
theorem w_X12_named_0 (C : Cx p s m args meth c D b cX12_named 4 RX12 (some .int)) {r : Int} {μ' : Mem} {x0 x1 x2 x3 : Int} {μ : Mem} {H : Heap} {locs : List Loc} {ls : Array Slot} (hf : f_X12_named x0 x1 x2 x3 μ = some (r, μ')) (t0 : isK x0 12) (hw : Hw D b μ s.heap H locs) (hl : lvh b ls 4 [(0, 2, x0), (1, 0, x1), (2, 0, x2), (3, 0, x3)]) : W p l e (rm 10) s m args below meth c H locs 0 0 (QM below args s D b (some (.int (jI r))) μ') (F0 m 0 ls []) := by
  unfold f_X12_named at hf
  refine r_aload_n C hl (kx := 0) rfl rfl dX12_named_0 ?_
  refine r_iload_n C hl (kx := 1) rfl rfl dX12_named_1 ?_
  obtain ⟨r2, μ1, e3, hf⟩ := bn_some hf
  refine r_callVv C hw (K := [(0, x1)]) ok12 t0 (c_X12_eats l D b t0 e3) mi_X12_eats in_X12_eats se_X12_eats kl_12_155 rfl rfl (lvh_sz hl) (by decide) (Kr := []) rfl (Nat.le_of_ble_eq_true rfl) dX12_named_2 (fun H locs hw => ?_)
  refine r_if_ne C (tgt := 13) (by decide) dX12_named_5 (fun c4 => ?_) (fun c4 => ?_)
  · have hf := ite_f c4 hf
    exact w_X12_named_13 C hf t0 hw (lvh_sub hl [0, 2, 3] rfl)
  · have hf := ite_t c4 hf
    refine r_aload_n C hl (kx := 0) rfl rfl dX12_named_8 ?_
    refine r_iconst C dX12_named_9 ?_
    obtain ⟨r6, μ5, e7, hf⟩ := bn_some hf
    refine r_callVn C hw (K := [(0, 2)]) ok12 t0 (c_X12_fails l D b t0 e7) mi_X12_fails in_X12_fails se_X12_fails kl_12_132 rfl rfl (lvh_sz hl) (by decide) (Kr := []) rfl (Nat.le_of_ble_eq_true rfl) dX12_named_10 (fun H locs hw => ?_)
    exact w_X12_named_13 C hf t0 hw (lvh_sub hl [0, 2, 3] rfl)
theorem c_X12_named (l : Launch) (D : Ds) (b : Nat) {x0 x1 x2 x3 : Int} {μ μ' : Mem} {r : Int} (t0 : isK x0 12) (hf : f_X12_named x0 x1 x2 x3 μ = some (r, μ')) : Ctr l D b yX12_named cX12_named 4 (some .int) 10 [(2, x0), (0, x1), (0, x2), (0, x3)] μ (some (.int (jI r))) μ' := by
  refine Ctr.of (by decide +kernel) (Nat.le_of_ble_eq_true rfl) ?_
  intro p e s m below meth c C hw ls hl
  exact w_X12_named_0 C hf t0 hw hl
set_option maxHeartbeats 4000000 in
set_option maxRecDepth 20000 in
theorem w_X12_readCart_0 (C : Cx p s m args meth c D b cX12_readCart 1 RX12 (none)) {r : Int} {μ' : Mem} {x0 : Int} {μ : Mem} {H : Heap} {locs : List Loc} {ls : Array Slot} (hf : f_X12_readCart x0 μ = some (r, μ')) (t0 : isK x0 12) (hw : Hw D b μ s.heap H locs) (hl : lvh b ls 1 [(0, 2, x0)]) : W p l e (rm 11) s m args below meth c H locs 0 0 (QM below args s D b none μ') (F0 m 0 ls []) := by
  unfold f_X12_readCart at hf
  refine r_aload_n C hl (kx := 0) rfl rfl dX12_readCart_0 ?_
  obtain ⟨r2, μ1, e3, hf⟩ := bn_some hf
  refine r_callVn C hw (K := []) ok12 t0 (c_X12_next l D b t0 e3) mi_X12_next in_X12_next se_X12_next kl_12_129 rfl rfl (lvh_sz hl) (by decide) (Kr := []) rfl (Nat.le_of_ble_eq_true rfl) dX12_readCart_1 (fun H locs hw => ?_)
  refine r_aload_n C hl (kx := 0) rfl rfl dX12_readCart_4 ?_
  refine gf_12_24 C hw t0 dX12_readCart_5 ?_
  refine r_bipush C (by decide) dX12_readCart_8 ?_
  refine r_aload_n C hl (kx := 0) rfl rfl dX12_readCart_10 ?_
  refine r_bipush C (by decide) dX12_readCart_11 ?_
  refine r_iconst C dX12_readCart_13 ?_
  refine r_aload_n C hl (kx := 0) rfl rfl dX12_readCart_14 ?_
  refine gf_12_24 C hw t0 dX12_readCart_15 ?_
  refine r_iconst C dX12_readCart_18 ?_
  refine r_iald C hw (n := 1100) (ow_12_4 t0) (j := 1) (by decide) (by decide) (by decide) dX12_readCart_19 ?_
  refine r_iconst C dX12_readCart_20 ?_
  refine r_isub C dX12_readCart_21 ?_
  obtain ⟨r5, μ4, e6, hf⟩ := bn_some hf
  refine r_callVv C hw (K := [(0, 7), (0, 0), (0, ((μ1 (x0 + 4) 1) - 1))]) ok12 t0 (c_X12_named l D b t0 e6) mi_X12_named in_X12_named se_X12_named kl_12_183 rfl rfl (lvh_sz hl) (by decide) (Kr := [(0, 55), (2, (x0 + 4))]) rfl (Nat.le_of_ble_eq_true rfl) dX12_readCart_22 (fun H locs hw => ?_)
  obtain ⟨μ7, e8, hf⟩ := nm_some hf
  refine r_iast C hw (n := 1100) (ow_12_4 t0) (j := 55) (by decide) (by decide) (by decide) dX12_readCart_25 (fun H locs hw => ?_)
  rw [← e8] at hw
  refine r_aload_n C hl (kx := 0) rfl rfl dX12_readCart_26 ?_
  refine gf_12_24 C hw t0 dX12_readCart_27 ?_
  refine r_iconst C dX12_readCart_30 ?_
  refine r_aload_n C hl (kx := 0) rfl rfl dX12_readCart_31 ?_
  refine r_bipush C (by decide) dX12_readCart_32 ?_
  refine r_iconst C dX12_readCart_34 ?_
  refine r_bipush C (by decide) dX12_readCart_35 ?_
  obtain ⟨r10, μ9, e11, hf⟩ := bn_some hf
  refine r_callVv C hw (K := [(0, 8), (0, 0), (0, 9)]) ok12 t0 (c_X12_named l D b t0 e11) mi_X12_named in_X12_named se_X12_named kl_12_183 rfl rfl (lvh_sz hl) (by decide) (Kr := [(0, 4), (2, (x0 + 4))]) rfl (Nat.le_of_ble_eq_true rfl) dX12_readCart_37 (fun H locs hw => ?_)
  obtain ⟨μ12, e13, hf⟩ := nm_some hf
  refine r_iast C hw (n := 1100) (ow_12_4 t0) (j := 4) (by decide) (by decide) (by decide) dX12_readCart_40 (fun H locs hw => ?_)
  rw [← e13] at hw
  exact r_vret C hw hf dX12_readCart_41
theorem c_X12_readCart (l : Launch) (D : Ds) (b : Nat) {x0 : Int} {μ μ' : Mem} {r : Int} (t0 : isK x0 12) (hf : f_X12_readCart x0 μ = some (r, μ')) : Ctr l D b yX12_readCart cX12_readCart 1 (none) 11 [(2, x0)] μ none μ' := by
  refine Ctr.of (by decide +kernel) (Nat.le_of_ble_eq_true rfl) ?_
  intro p e s m below meth c C hw ls hl
  exact w_X12_readCart_0 C hf t0 hw hl
set_option maxHeartbeats 4000000 in
set_option maxRecDepth 20000 in
theorem w_X12_readPerson_80 (C : Cx p s m args meth c D b cX12_readPerson 2 RX12 (none)) {r : Int} {μ' : Mem} {x0 : Int} {μ : Mem} {H : Heap} {locs : List Loc} {ls : Array Slot} (hf : f_X12_readPerson_j80 x0 μ = some (r, μ')) (t0 : isK x0 12) (hw : Hw D b μ s.heap H locs) (hl : lvh b ls 2 [(0, 2, x0)]) : W p l e (rm 11) s m args below meth c H locs 0 0 (QM below args s D b none μ') (F0 m 80 ls []) := by
  unfold f_X12_readPerson_j80 at hf
  refine r_aload_n C hl (kx := 0) rfl rfl dX12_readPerson_80 ?_
  refine gf_12_120 C hw t0 dX12_readPerson_81 ?_
  refine r_if_ne C (tgt := 97) (by decide) dX12_readPerson_84 (fun c1 => ?_) (fun c1 => ?_)
  · have hf := ite_f c1 hf
    exact r_vret C hw hf dX12_readPerson_97
  · have hf := ite_t c1 hf
    refine r_aload_n C hl (kx := 0) rfl rfl dX12_readPerson_87 ?_
    refine gf_12_24 C hw t0 dX12_readPerson_88 ?_
    refine r_iconst C dX12_readPerson_91 ?_
    refine r_dup2 C rfl (rfv_cat _ _) dX12_readPerson_92 ?_
    refine r_iald C hw (n := 1100) (ow_12_4 t0) (j := 3) (by decide) (by decide) (by decide) dX12_readPerson_93 ?_
    refine r_iconst C dX12_readPerson_94 ?_
    refine r_iadd C dX12_readPerson_95 ?_
    obtain ⟨μ2, e3, hf⟩ := nm_some hf
    refine r_iast C hw (n := 1100) (ow_12_4 t0) (j := 3) (by decide) (by decide) (by decide) dX12_readPerson_96 (fun H locs hw => ?_)
    rw [← e3] at hw
    exact r_vret C hw hf dX12_readPerson_97
set_option maxHeartbeats 4000000 in
set_option maxRecDepth 20000 in
theorem w_X12_readPerson_48 (C : Cx p s m args meth c D b cX12_readPerson 2 RX12 (none)) {r : Int} {μ' : Mem} : ∀ (n : Nat) (x0 x1 : Int) (μ : Mem) (H : Heap) (locs : List Loc) (ls : Array Slot), f_X12_readPerson_w48 n x0 x1 μ = some (r, μ') → isK x0 12 → Hw D b μ s.heap H locs → lvh b ls 2 [(0, 2, x0), (1, 0, x1)] → W p l e (rm 11) s m args below meth c H locs 0 0 (QM below args s D b none μ') (F0 m 48 ls []) := by
  intro n
  induction n with
  | zero => intro x0 x1 μ H locs ls hf; cases hf
  | succ n ih =>
    intro x0 x1 μ H locs ls hf t0 hw hl
    rw [f_X12_readPerson_w48.eq_2] at hf
    refine r_aload_n C hl (kx := 0) rfl rfl dX12_readPerson_48 ?_
    refine gf_12_120 C hw t0 dX12_readPerson_49 ?_
    refine r_if_ne C (tgt := 80) (by decide) dX12_readPerson_52 (fun c1 => ?_) (fun c1 => ?_)
    · have hf := ite_f c1 hf
      exact w_X12_readPerson_80 C hf t0 hw (lvh_sub hl [0] rfl)
    · have hf := ite_t c1 hf
      refine r_aload_n C hl (kx := 0) rfl rfl dX12_readPerson_55 ?_
      refine r_bipush C (by decide) dX12_readPerson_56 ?_
      obtain ⟨r3, μ2, e4, hf⟩ := bn_some hf
      refine r_callVv C hw (K := [(0, 11)]) ok12 t0 (c_X12_eats l D b t0 e4) mi_X12_eats in_X12_eats se_X12_eats kl_12_155 rfl rfl (lvh_sz hl) (by decide) (Kr := []) rfl (Nat.le_of_ble_eq_true rfl) dX12_readPerson_58 (fun H locs hw => ?_)
      refine r_if_eq C (tgt := 80) (by decide) dX12_readPerson_61 (fun c5 => ?_) (fun c5 => ?_)
      · have hf := ite_t c5 hf
        exact w_X12_readPerson_80 C hf t0 hw (lvh_sub hl [0] rfl)
      · have hf := ite_f c5 hf
        refine r_aload_n C hl (kx := 0) rfl rfl dX12_readPerson_64 ?_
        refine gf_12_24 C hw t0 dX12_readPerson_65 ?_
        refine r_bipush C (by decide) dX12_readPerson_68 ?_
        refine r_dup2 C rfl (rfv_cat _ _) dX12_readPerson_70 ?_
        refine r_iald C hw (n := 1100) (ow_12_4 t0) (j := 65) (by decide) (by decide) (by decide) dX12_readPerson_71 ?_
        refine r_iconst C dX12_readPerson_72 ?_
        refine r_iload_n C hl (kx := 1) rfl rfl dX12_readPerson_73 ?_
        refine r_ishl C dX12_readPerson_74 ?_
        refine r_ior C dX12_readPerson_75 ?_
        obtain ⟨μ6, e7, hf⟩ := nm_some hf
        refine r_iast C hw (n := 1100) (ow_12_4 t0) (j := 65) (by decide) (by decide) (by decide) dX12_readPerson_76 (fun H locs hw => ?_)
        rw [← e7] at hw
        refine r_goto C (tgt := 48) (by decide) dX12_readPerson_77 ?_
        exact ih _ _ _ _ _ _ hf t0 hw (lvh_sub hl [0, 1] rfl)
set_option maxHeartbeats 4000000 in
set_option maxRecDepth 20000 in
theorem w_X12_readPerson_18 (C : Cx p s m args meth c D b cX12_readPerson 2 RX12 (none)) {r : Int} {μ' : Mem} {x0 x1 : Int} {μ : Mem} {H : Heap} {locs : List Loc} {ls : Array Slot} (hf : f_X12_readPerson_j18 x0 x1 μ = some (r, μ')) (t0 : isK x0 12) (hw : Hw D b μ s.heap H locs) (hl : lvh b ls 2 [(0, 2, x0), (1, 0, x1)]) : W p l e (rm 11) s m args below meth c H locs 0 0 (QM below args s D b none μ') (F0 m 18 ls []) := by
  unfold f_X12_readPerson_j18 at hf
  refine r_aload_n C hl (kx := 0) rfl rfl dX12_readPerson_18 ?_
  refine gf_12_120 C hw t0 dX12_readPerson_19 ?_
  refine r_if_eq C (tgt := 26) (by decide) dX12_readPerson_22 (fun c1 => ?_) (fun c1 => ?_)
  · have hf := ite_t c1 hf
    refine r_aload_n C hl (kx := 0) rfl rfl dX12_readPerson_26 ?_
    obtain ⟨r3, μ2, e4, hf⟩ := bn_some hf
    refine r_callVn C hw (K := []) ok12 t0 (c_X12_next l D b t0 e4) mi_X12_next in_X12_next se_X12_next kl_12_129 rfl rfl (lvh_sz hl) (by decide) (Kr := []) rfl (Nat.le_of_ble_eq_true rfl) dX12_readPerson_27 (fun H locs hw => ?_)
    refine r_aload_n C hl (kx := 0) rfl rfl dX12_readPerson_30 ?_
    refine gf_12_24 C hw t0 dX12_readPerson_31 ?_
    refine r_bipush C (by decide) dX12_readPerson_34 ?_
    refine r_iload_n C hl (kx := 1) rfl rfl dX12_readPerson_36 ?_
    refine r_iadd C dX12_readPerson_37 ?_
    refine r_aload_n C hl (kx := 0) rfl rfl dX12_readPerson_38 ?_
    refine r_bipush C (by decide) dX12_readPerson_39 ?_
    refine r_iconst C dX12_readPerson_41 ?_
    refine r_bipush C (by decide) dX12_readPerson_42 ?_
    obtain ⟨r6, μ5, e7, hf⟩ := bn_some hf
    refine r_callVv C hw (K := [(0, 10), (0, 0), (0, 8)]) ok12 t0 (c_X12_named l D b t0 e7) mi_X12_named in_X12_named se_X12_named kl_12_183 rfl rfl (lvh_sz hl) (by decide) (Kr := [(0, (47 + x1)), (2, (x0 + 4))]) rfl (Nat.le_of_ble_eq_true rfl) dX12_readPerson_44 (fun H locs hw => ?_)
    obtain ⟨g10, hf⟩ := gd_some hf
    obtain ⟨μ8, e9, hf⟩ := nm_some hf
    refine r_iast C hw (n := 1100) (ow_12_4 t0) (j := (nrm (47 + x1))) rfl g10 (by decide) dX12_readPerson_47 (fun H locs hw => ?_)
    rw [← e9] at hw
    exact w_X12_readPerson_48 C FU _ _ _ _ _ _ hf t0 hw (lvh_sub hl [0, 1] rfl)
  · have hf := ite_f c1 hf
    exact r_vret C hw hf dX12_readPerson_25
set_option maxHeartbeats 4000000 in
set_option maxRecDepth 20000 in
theorem w_X12_readPerson_0 (C : Cx p s m args meth c D b cX12_readPerson 2 RX12 (none)) {r : Int} {μ' : Mem} {x0 : Int} {μ : Mem} {H : Heap} {locs : List Loc} {ls : Array Slot} (hf : f_X12_readPerson x0 μ = some (r, μ')) (t0 : isK x0 12) (hw : Hw D b μ s.heap H locs) (hl : lvh b ls 2 [(0, 2, x0)]) : W p l e (rm 11) s m args below meth c H locs 0 0 (QM below args s D b none μ') (F0 m 0 ls []) := by
  unfold f_X12_readPerson at hf
  refine r_aload_n C hl (kx := 0) rfl rfl dX12_readPerson_0 ?_
  refine gf_12_24 C hw t0 dX12_readPerson_1 ?_
  refine r_iconst C dX12_readPerson_4 ?_
  refine r_iald C hw (n := 1100) (ow_12_4 t0) (j := 3) (by decide) (by decide) (by decide) dX12_readPerson_5 ?_
  obtain ⟨v1, e2, hf⟩ := nm_some hf
  refine top_i e2 ?_
  refine r_istore_n C hl (by decide) (L' := [(1, 0, v1), (0, 2, x0)]) rfl rfl dX12_readPerson_6 (fun ls hl => ?_)
  refine r_iload_n C hl (kx := 0) rfl rfl dX12_readPerson_7 ?_
  refine r_bipush C (by decide) dX12_readPerson_8 ?_
  refine r_icmp_ne C (tgt := 18) (by decide) dX12_readPerson_10 (fun c3 => ?_) (fun c3 => ?_)
  · have hf := ite_f c3 hf
    exact w_X12_readPerson_18 C hf t0 hw (lvh_sub hl [1, 0] rfl)
  · have hf := ite_t c3 hf
    refine r_aload_n C hl (kx := 1) rfl rfl dX12_readPerson_13 ?_
    refine r_iconst C dX12_readPerson_14 ?_
    obtain ⟨r5, μ4, e6, hf⟩ := bn_some hf
    refine r_callVn C hw (K := [(0, 4)]) ok12 t0 (c_X12_fails l D b t0 e6) mi_X12_fails in_X12_fails se_X12_fails kl_12_132 rfl rfl (lvh_sz hl) (by decide) (Kr := []) rfl (Nat.le_of_ble_eq_true rfl) dX12_readPerson_15 (fun H locs hw => ?_)
    exact w_X12_readPerson_18 C hf t0 hw (lvh_sub hl [1, 0] rfl)
theorem c_X12_readPerson (l : Launch) (D : Ds) (b : Nat) {x0 : Int} {μ μ' : Mem} {r : Int} (t0 : isK x0 12) (hf : f_X12_readPerson x0 μ = some (r, μ')) : Ctr l D b yX12_readPerson cX12_readPerson 2 (none) 11 [(2, x0)] μ none μ' := by
  refine Ctr.of (by decide +kernel) (Nat.le_of_ble_eq_true rfl) ?_
  intro p e s m below meth c C hw ls hl
  exact w_X12_readPerson_0 C hf t0 hw hl
set_option maxHeartbeats 4000000 in
set_option maxRecDepth 20000 in
theorem w_X12_readLaw_49 (C : Cx p s m args meth c D b cX12_readLaw 3 RX12 (none)) {r : Int} {μ' : Mem} {x0 x1 x2 : Int} {μ : Mem} {H : Heap} {locs : List Loc} {ls : Array Slot} (hf : f_X12_readLaw_j49 x0 x1 x2 μ = some (r, μ')) (t0 : isK x0 12) (hw : Hw D b μ s.heap H locs) (hl : lvh b ls 3 [(0, 2, x0), (1, 0, x1), (2, 0, x2)]) : W p l e (rm 75) s m args below meth c H locs 0 0 (QM below args s D b none μ') (F0 m 49 ls []) := by
  unfold f_X12_readLaw_j49 at hf
  refine r_aload_n C hl (kx := 0) rfl rfl dX12_readLaw_49 ?_
  refine gf_12_120 C hw t0 dX12_readLaw_50 ?_
  refine r_if_eq C (tgt := 57) (by decide) dX12_readLaw_53 (fun c1 => ?_) (fun c1 => ?_)
  · have hf := ite_t c1 hf
    refine r_aload_n C hl (kx := 0) rfl rfl dX12_readLaw_57 ?_
    refine gf_12_24 C hw t0 dX12_readLaw_58 ?_
    refine r_iconst C dX12_readLaw_61 ?_
    refine r_iload_n C hl (kx := 1) rfl rfl dX12_readLaw_62 ?_
    refine r_iadd C dX12_readLaw_63 ?_
    refine r_iconst C dX12_readLaw_64 ?_
    obtain ⟨g4, hf⟩ := gd_some hf
    obtain ⟨μ2, e3, hf⟩ := nm_some hf
    refine r_iast C hw (n := 1100) (ow_12_4 t0) (j := (nrm (5 + x1))) rfl g4 (by decide) dX12_readLaw_65 (fun H locs hw => ?_)
    rw [← e3] at hw
    refine r_aload_n C hl (kx := 0) rfl rfl dX12_readLaw_66 ?_
    refine gf_12_24 C hw t0 dX12_readLaw_67 ?_
    refine r_bipush C (by decide) dX12_readLaw_70 ?_
    refine r_iload_n C hl (kx := 1) rfl rfl dX12_readLaw_72 ?_
    refine r_iadd C dX12_readLaw_73 ?_
    refine r_iload_n C hl (kx := 2) rfl rfl dX12_readLaw_74 ?_
    obtain ⟨g7, hf⟩ := gd_some hf
    obtain ⟨μ5, e6, hf⟩ := nm_some hf
    refine r_iast C hw (n := 1100) (ow_12_4 t0) (j := (nrm (7 + x1))) rfl g7 (by decide) dX12_readLaw_75 (fun H locs hw => ?_)
    rw [← e6] at hw
    refine r_aload_n C hl (kx := 0) rfl rfl dX12_readLaw_76 ?_
    refine gf_12_24 C hw t0 dX12_readLaw_77 ?_
    refine r_bipush C (by decide) dX12_readLaw_80 ?_
    refine r_iload_n C hl (kx := 1) rfl rfl dX12_readLaw_82 ?_
    refine r_iadd C dX12_readLaw_83 ?_
    refine r_aload_n C hl (kx := 0) rfl rfl dX12_readLaw_84 ?_
    refine gf_12_24 C hw t0 dX12_readLaw_85 ?_
    refine r_sipush C (by decide) dX12_readLaw_88 ?_
    refine r_iald C hw (n := 1100) (ow_12_4 t0) (j := 199) (by decide) (by decide) (by decide) dX12_readLaw_91 ?_
    refine r_iload_n C hl (kx := 2) rfl rfl dX12_readLaw_92 ?_
    refine r_isub C dX12_readLaw_93 ?_
    obtain ⟨g10, hf⟩ := gd_some hf
    obtain ⟨μ8, e9, hf⟩ := nm_some hf
    refine r_iast C hw (n := 1100) (ow_12_4 t0) (j := (nrm (9 + x1))) rfl g10 (by decide) dX12_readLaw_94 (fun H locs hw => ?_)
    rw [← e9] at hw
    exact r_vret C hw hf dX12_readLaw_95
  · have hf := ite_f c1 hf
    exact r_vret C hw hf dX12_readLaw_56
set_option maxHeartbeats 4000000 in
set_option maxRecDepth 20000 in
theorem w_X12_readLaw_18 (C : Cx p s m args meth c D b cX12_readLaw 3 RX12 (none)) {r : Int} {μ' : Mem} {x0 x1 : Int} {μ : Mem} {H : Heap} {locs : List Loc} {ls : Array Slot} (hf : f_X12_readLaw_j18 x0 x1 μ = some (r, μ')) (t0 : isK x0 12) (hw : Hw D b μ s.heap H locs) (hl : lvh b ls 3 [(0, 2, x0), (1, 0, x1)]) : W p l e (rm 75) s m args below meth c H locs 0 0 (QM below args s D b none μ') (F0 m 18 ls []) := by
  unfold f_X12_readLaw_j18 at hf
  refine r_aload_n C hl (kx := 0) rfl rfl dX12_readLaw_18 ?_
  refine gf_12_24 C hw t0 dX12_readLaw_19 ?_
  refine r_sipush C (by decide) dX12_readLaw_22 ?_
  refine r_iald C hw (n := 1100) (ow_12_4 t0) (j := 199) (by decide) (by decide) (by decide) dX12_readLaw_25 ?_
  obtain ⟨v1, e2, hf⟩ := nm_some hf
  refine top_i e2 ?_
  refine r_istore_n C hl (by decide) (L' := [(2, 0, v1), (0, 2, x0), (1, 0, x1)]) rfl rfl dX12_readLaw_26 (fun ls hl => ?_)
  refine r_aload_n C hl (kx := 1) rfl rfl dX12_readLaw_27 ?_
  refine r_iload_n C hl (kx := 2) rfl rfl dX12_readLaw_28 ?_
  obtain ⟨μ3, e4, hf⟩ := nm_some hf
  refine pf_12_140 C hw t0 dX12_readLaw_29 (fun H locs hw => ?_)
  rw [← e4] at hw
  refine r_iload_n C hl (kx := 2) rfl rfl dX12_readLaw_32 ?_
  refine r_if_ne C (tgt := 44) (by decide) dX12_readLaw_33 (fun c5 => ?_) (fun c5 => ?_)
  · have hf := ite_f c5 hf
    refine r_aload_n C hl (kx := 1) rfl rfl dX12_readLaw_44 ?_
    refine r_iconst C dX12_readLaw_45 ?_
    obtain ⟨r7, μ6, e8, hf⟩ := bn_some hf
    refine r_callVn C hw (K := [(0, 0)]) ok12 t0 (c_X12_readTruth l D b t0 e8) mi_X12_readTruth in_X12_readTruth se_X12_readTruth kl_12_161 rfl rfl (lvh_sz hl) (by decide) (Kr := []) rfl (Nat.le_of_ble_eq_true rfl) dX12_readLaw_46 (fun H locs hw => ?_)
    exact w_X12_readLaw_49 C hf t0 hw (lvh_sub hl [1, 2, 0] rfl)
  · have hf := ite_t c5 hf
    refine r_aload_n C hl (kx := 1) rfl rfl dX12_readLaw_36 ?_
    refine r_iconst C dX12_readLaw_37 ?_
    obtain ⟨r10, μ9, e11, hf⟩ := bn_some hf
    refine r_callVn C hw (K := [(0, 0)]) ok12 t0 (c_X12_readSum l D b t0 e11) mi_X12_readSum in_X12_readSum se_X12_readSum kl_12_152 rfl rfl (lvh_sz hl) (by decide) (Kr := []) rfl (Nat.le_of_ble_eq_true rfl) dX12_readLaw_38 (fun H locs hw => ?_)
    refine r_goto C (tgt := 49) (by decide) dX12_readLaw_41 ?_
    exact w_X12_readLaw_49 C hf t0 hw (lvh_sub hl [1, 2, 0] rfl)
set_option maxHeartbeats 4000000 in
set_option maxRecDepth 20000 in
theorem w_X12_readLaw_0 (C : Cx p s m args meth c D b cX12_readLaw 3 RX12 (none)) {r : Int} {μ' : Mem} {x0 x1 : Int} {μ : Mem} {H : Heap} {locs : List Loc} {ls : Array Slot} (hf : f_X12_readLaw x0 x1 μ = some (r, μ')) (t0 : isK x0 12) (hw : Hw D b μ s.heap H locs) (hl : lvh b ls 3 [(0, 2, x0), (1, 0, x1)]) : W p l e (rm 75) s m args below meth c H locs 0 0 (QM below args s D b none μ') (F0 m 0 ls []) := by
  unfold f_X12_readLaw at hf
  refine r_aload_n C hl (kx := 0) rfl rfl dX12_readLaw_0 ?_
  obtain ⟨r2, μ1, e3, hf⟩ := bn_some hf
  refine r_callVn C hw (K := []) ok12 t0 (c_X12_next l D b t0 e3) mi_X12_next in_X12_next se_X12_next kl_12_129 rfl rfl (lvh_sz hl) (by decide) (Kr := []) rfl (Nat.le_of_ble_eq_true rfl) dX12_readLaw_1 (fun H locs hw => ?_)
  refine r_aload_n C hl (kx := 0) rfl rfl dX12_readLaw_4 ?_
  refine r_bipush C (by decide) dX12_readLaw_5 ?_
  obtain ⟨r5, μ4, e6, hf⟩ := bn_some hf
  refine r_callVv C hw (K := [(0, 31)]) ok12 t0 (c_X12_eats l D b t0 e6) mi_X12_eats in_X12_eats se_X12_eats kl_12_155 rfl rfl (lvh_sz hl) (by decide) (Kr := []) rfl (Nat.le_of_ble_eq_true rfl) dX12_readLaw_7 (fun H locs hw => ?_)
  refine r_if_ne C (tgt := 18) (by decide) dX12_readLaw_10 (fun c7 => ?_) (fun c7 => ?_)
  · have hf := ite_f c7 hf
    exact w_X12_readLaw_18 C hf t0 hw (lvh_sub hl [0, 1] rfl)
  · have hf := ite_t c7 hf
    refine r_aload_n C hl (kx := 0) rfl rfl dX12_readLaw_13 ?_
    refine r_iconst C dX12_readLaw_14 ?_
    obtain ⟨r9, μ8, e10, hf⟩ := bn_some hf
    refine r_callVn C hw (K := [(0, 2)]) ok12 t0 (c_X12_fails l D b t0 e10) mi_X12_fails in_X12_fails se_X12_fails kl_12_132 rfl rfl (lvh_sz hl) (by decide) (Kr := []) rfl (Nat.le_of_ble_eq_true rfl) dX12_readLaw_15 (fun H locs hw => ?_)
    exact w_X12_readLaw_18 C hf t0 hw (lvh_sub hl [0, 1] rfl)
theorem c_X12_readLaw (l : Launch) (D : Ds) (b : Nat) {x0 x1 : Int} {μ μ' : Mem} {r : Int} (t0 : isK x0 12) (hf : f_X12_readLaw x0 x1 μ = some (r, μ')) : Ctr l D b yX12_readLaw cX12_readLaw 3 (none) 75 [(2, x0), (0, x1)] μ none μ' := by
  refine Ctr.of (by decide +kernel) (Nat.le_of_ble_eq_true rfl) ?_
  intro p e s m below meth c C hw ls hl
  exact w_X12_readLaw_0 C hf t0 hw hl
set_option maxHeartbeats 4000000 in
set_option maxRecDepth 20000 in
theorem w_X12_readLine_99 (C : Cx p s m args meth c D b cX12_readLine 1 RX12 (none)) {r : Int} {μ' : Mem} {x0 : Int} {μ : Mem} {H : Heap} {locs : List Loc} {ls : Array Slot} (hf : f_X12_readLine_j99 x0 μ = some (r, μ')) (t0 : isK x0 12) (hw : Hw D b μ s.heap H locs) (hl : lvh b ls 1 [(0, 2, x0)]) : W p l e (rm 76) s m args below meth c H locs 0 0 (QM below args s D b none μ') (F0 m 99 ls []) := by
  unfold f_X12_readLine_j99 at hf
  refine r_aload_n C hl (kx := 0) rfl rfl dX12_readLine_99 ?_
  refine r_aload_n C hl (kx := 0) rfl rfl dX12_readLine_100 ?_
  refine gf_12_102 C hw t0 dX12_readLine_101 ?_
  refine r_bipush C (by decide) dX12_readLine_104 ?_
  refine r_isub C dX12_readLine_106 ?_
  obtain ⟨r2, μ1, e3, hf⟩ := bn_some hf
  refine r_callVn C hw (K := [(0, ((μ x0 9) - 13))]) ok12 t0 (c_X12_readLaw l D b t0 e3) mi_X12_readLaw in_X12_readLaw se_X12_readLaw kl_12_196 rfl rfl (lvh_sz hl) (by decide) (Kr := []) rfl (Nat.le_of_ble_eq_true rfl) dX12_readLine_107 (fun H locs hw => ?_)
  refine r_goto C (tgt := 118) (by decide) dX12_readLine_110 ?_
  exact r_vret C hw hf dX12_readLine_118
set_option maxHeartbeats 4000000 in
set_option maxRecDepth 20000 in
theorem w_X12_readLine_0 (C : Cx p s m args meth c D b cX12_readLine 1 RX12 (none)) {r : Int} {μ' : Mem} {x0 : Int} {μ : Mem} {H : Heap} {locs : List Loc} {ls : Array Slot} (hf : f_X12_readLine x0 μ = some (r, μ')) (t0 : isK x0 12) (hw : Hw D b μ s.heap H locs) (hl : lvh b ls 1 [(0, 2, x0)]) : W p l e (rm 76) s m args below meth c H locs 0 0 (QM below args s D b none μ') (F0 m 0 ls []) := by
  unfold f_X12_readLine at hf
  refine r_aload_n C hl (kx := 0) rfl rfl dX12_readLine_0 ?_
  refine gf_12_120 C hw t0 dX12_readLine_1 ?_
  refine r_if_eq C (tgt := 8) (by decide) dX12_readLine_4 (fun c1 => ?_) (fun c1 => ?_)
  · have hf := ite_t c1 hf
    refine r_aload_n C hl (kx := 0) rfl rfl dX12_readLine_8 ?_
    refine r_iconst C dX12_readLine_9 ?_
    obtain ⟨r3, μ2, e4, hf⟩ := bn_some hf
    refine r_callVv C hw (K := [(0, 2)]) ok12 t0 (c_X12_is l D b t0 e4) mi_X12_is in_X12_is se_X12_is kl_12_126 rfl rfl (lvh_sz hl) (by decide) (Kr := []) rfl (Nat.le_of_ble_eq_true rfl) dX12_readLine_10 (fun H locs hw => ?_)
    refine r_if_eq C (tgt := 23) (by decide) dX12_readLine_13 (fun c5 => ?_) (fun c5 => ?_)
    · have hf := ite_t c5 hf
      refine r_aload_n C hl (kx := 0) rfl rfl dX12_readLine_23 ?_
      refine r_bipush C (by decide) dX12_readLine_24 ?_
      obtain ⟨r7, μ6, e8, hf⟩ := bn_some hf
      refine r_callVv C hw (K := [(0, 6)]) ok12 t0 (c_X12_is l D b t0 e8) mi_X12_is in_X12_is se_X12_is kl_12_126 rfl rfl (lvh_sz hl) (by decide) (Kr := []) rfl (Nat.le_of_ble_eq_true rfl) dX12_readLine_26 (fun H locs hw => ?_)
      refine r_if_eq C (tgt := 39) (by decide) dX12_readLine_29 (fun c9 => ?_) (fun c9 => ?_)
      · have hf := ite_t c9 hf
        refine r_aload_n C hl (kx := 0) rfl rfl dX12_readLine_39 ?_
        refine r_bipush C (by decide) dX12_readLine_40 ?_
        obtain ⟨r11, μ10, e12, hf⟩ := bn_some hf
        refine r_callVv C hw (K := [(0, 9)]) ok12 t0 (c_X12_is l D b t0 e12) mi_X12_is in_X12_is se_X12_is kl_12_126 rfl rfl (lvh_sz hl) (by decide) (Kr := []) rfl (Nat.le_of_ble_eq_true rfl) dX12_readLine_42 (fun H locs hw => ?_)
        refine r_if_eq C (tgt := 55) (by decide) dX12_readLine_45 (fun c13 => ?_) (fun c13 => ?_)
        · have hf := ite_t c13 hf
          refine r_aload_n C hl (kx := 0) rfl rfl dX12_readLine_55 ?_
          refine r_bipush C (by decide) dX12_readLine_56 ?_
          obtain ⟨r15, μ14, e16, hf⟩ := bn_some hf
          refine r_callVv C hw (K := [(0, 12)]) ok12 t0 (c_X12_eats l D b t0 e16) mi_X12_eats in_X12_eats se_X12_eats kl_12_155 rfl rfl (lvh_sz hl) (by decide) (Kr := []) rfl (Nat.le_of_ble_eq_true rfl) dX12_readLine_58 (fun H locs hw => ?_)
          refine r_if_eq C (tgt := 81) (by decide) dX12_readLine_61 (fun c17 => ?_) (fun c17 => ?_)
          · have hf := ite_t c17 hf
            refine r_aload_n C hl (kx := 0) rfl rfl dX12_readLine_81 ?_
            refine r_bipush C (by decide) dX12_readLine_82 ?_
            obtain ⟨r19, μ18, e20, hf⟩ := bn_some hf
            refine r_callVv C hw (K := [(0, 13)]) ok12 t0 (c_X12_is l D b t0 e20) mi_X12_is in_X12_is se_X12_is kl_12_126 rfl rfl (lvh_sz hl) (by decide) (Kr := []) rfl (Nat.le_of_ble_eq_true rfl) dX12_readLine_84 (fun H locs hw => ?_)
            refine r_if_ne C (tgt := 99) (by decide) dX12_readLine_87 (fun c21 => ?_) (fun c21 => ?_)
            · have hf := ite_f c21 hf
              exact w_X12_readLine_99 C hf t0 hw (lvh_sub hl [0] rfl)
            · have hf := ite_t c21 hf
              refine r_aload_n C hl (kx := 0) rfl rfl dX12_readLine_90 ?_
              refine r_bipush C (by decide) dX12_readLine_91 ?_
              obtain ⟨r23, μ22, e24, hf⟩ := bn_some hf
              refine r_callVv C hw (K := [(0, 14)]) ok12 t0 (c_X12_is l D b t0 e24) mi_X12_is in_X12_is se_X12_is kl_12_126 rfl rfl (lvh_sz hl) (by decide) (Kr := []) rfl (Nat.le_of_ble_eq_true rfl) dX12_readLine_93 (fun H locs hw => ?_)
              refine r_if_eq C (tgt := 113) (by decide) dX12_readLine_96 (fun c25 => ?_) (fun c25 => ?_)
              · have hf := ite_t c25 hf
                refine r_aload_n C hl (kx := 0) rfl rfl dX12_readLine_113 ?_
                refine r_iconst C dX12_readLine_114 ?_
                obtain ⟨r27, μ26, e28, hf⟩ := bn_some hf
                refine r_callVn C hw (K := [(0, 2)]) ok12 t0 (c_X12_fails l D b t0 e28) mi_X12_fails in_X12_fails se_X12_fails kl_12_132 rfl rfl (lvh_sz hl) (by decide) (Kr := []) rfl (Nat.le_of_ble_eq_true rfl) dX12_readLine_115 (fun H locs hw => ?_)
                exact r_vret C hw hf dX12_readLine_118
              · have hf := ite_f c25 hf
                exact w_X12_readLine_99 C hf t0 hw (lvh_sub hl [0] rfl)
          · have hf := ite_f c17 hf
            refine r_aload_n C hl (kx := 0) rfl rfl dX12_readLine_64 ?_
            refine gf_12_24 C hw t0 dX12_readLine_65 ?_
            refine r_bipush C (by decide) dX12_readLine_68 ?_
            refine r_aload_n C hl (kx := 0) rfl rfl dX12_readLine_70 ?_
            refine r_iconst C dX12_readLine_71 ?_
            refine r_bipush C (by decide) dX12_readLine_72 ?_
            obtain ⟨r30, μ29, e31, hf⟩ := bn_some hf
            refine r_callVv C hw (K := [(0, 0), (0, 9)]) ok12 t0 (c_X12_takes l D b t0 e31) mi_X12_takes in_X12_takes se_X12_takes kl_12_176 rfl rfl (lvh_sz hl) (by decide) (Kr := [(0, 66), (2, (x0 + 4))]) rfl (Nat.le_of_ble_eq_true rfl) dX12_readLine_74 (fun H locs hw => ?_)
            obtain ⟨μ32, e33, hf⟩ := nm_some hf
            refine r_iast C hw (n := 1100) (ow_12_4 t0) (j := 66) (by decide) (by decide) (by decide) dX12_readLine_77 (fun H locs hw => ?_)
            rw [← e33] at hw
            refine r_goto C (tgt := 118) (by decide) dX12_readLine_78 ?_
            exact r_vret C hw hf dX12_readLine_118
        · have hf := ite_f c13 hf
          refine r_aload_n C hl (kx := 0) rfl rfl dX12_readLine_48 ?_
          obtain ⟨r35, μ34, e36, hf⟩ := bn_some hf
          refine r_callVn C hw (K := []) ok12 t0 (c_X12_readPerson l D b t0 e36) mi_X12_readPerson in_X12_readPerson se_X12_readPerson kl_12_193 rfl rfl (lvh_sz hl) (by decide) (Kr := []) rfl (Nat.le_of_ble_eq_true rfl) dX12_readLine_49 (fun H locs hw => ?_)
          refine r_goto C (tgt := 118) (by decide) dX12_readLine_52 ?_
          exact r_vret C hw hf dX12_readLine_118
      · have hf := ite_f c9 hf
        refine r_aload_n C hl (kx := 0) rfl rfl dX12_readLine_32 ?_
        obtain ⟨r38, μ37, e39, hf⟩ := bn_some hf
        refine r_callVn C hw (K := []) ok12 t0 (c_X12_readCart l D b t0 e39) mi_X12_readCart in_X12_readCart se_X12_readCart kl_12_190 rfl rfl (lvh_sz hl) (by decide) (Kr := []) rfl (Nat.le_of_ble_eq_true rfl) dX12_readLine_33 (fun H locs hw => ?_)
        refine r_goto C (tgt := 118) (by decide) dX12_readLine_36 ?_
        exact r_vret C hw hf dX12_readLine_118
    · have hf := ite_f c5 hf
      refine r_aload_n C hl (kx := 0) rfl rfl dX12_readLine_16 ?_
      obtain ⟨r41, μ40, e42, hf⟩ := bn_some hf
      refine r_callVn C hw (K := []) ok12 t0 (c_X12_readLane l D b t0 e42) mi_X12_readLane in_X12_readLane se_X12_readLane kl_12_187 rfl rfl (lvh_sz hl) (by decide) (Kr := []) rfl (Nat.le_of_ble_eq_true rfl) dX12_readLine_17 (fun H locs hw => ?_)
      refine r_goto C (tgt := 118) (by decide) dX12_readLine_20 ?_
      exact r_vret C hw hf dX12_readLine_118
  · have hf := ite_f c1 hf
    exact r_vret C hw hf dX12_readLine_7
theorem c_X12_readLine (l : Launch) (D : Ds) (b : Nat) {x0 : Int} {μ μ' : Mem} {r : Int} (t0 : isK x0 12) (hf : f_X12_readLine x0 μ = some (r, μ')) : Ctr l D b yX12_readLine cX12_readLine 1 (none) 76 [(2, x0)] μ none μ' := by
  refine Ctr.of (by decide +kernel) (Nat.le_of_ble_eq_true rfl) ?_
  intro p e s m below meth c C hw ls hl
  exact w_X12_readLine_0 C hf t0 hw hl
set_option maxHeartbeats 4000000 in
set_option maxRecDepth 20000 in
theorem w_X12_closes_14 (C : Cx p s m args meth c D b cX12_closes 1 RX12 (none)) {r : Int} {μ' : Mem} {x0 : Int} {μ : Mem} {H : Heap} {locs : List Loc} {ls : Array Slot} (hf : f_X12_closes_j14 x0 μ = some (r, μ')) (t0 : isK x0 12) (hw : Hw D b μ s.heap H locs) (hl : lvh b ls 1 [(0, 2, x0)]) : W p l e (rm 10) s m args below meth c H locs 0 0 (QM below args s D b none μ') (F0 m 14 ls []) := by
  unfold f_X12_closes_j14 at hf
  refine r_aload_n C hl (kx := 0) rfl rfl dX12_closes_14 ?_
  refine gf_12_24 C hw t0 dX12_closes_15 ?_
  refine r_iconst C dX12_closes_18 ?_
  refine r_dup2 C rfl (rfv_cat _ _) dX12_closes_19 ?_
  refine r_iald C hw (n := 1100) (ow_12_4 t0) (j := 0) (by decide) (by decide) (by decide) dX12_closes_20 ?_
  refine r_iconst C dX12_closes_21 ?_
  refine r_iadd C dX12_closes_22 ?_
  obtain ⟨μ1, e2, hf⟩ := nm_some hf
  refine r_iast C hw (n := 1100) (ow_12_4 t0) (j := 0) (by decide) (by decide) (by decide) dX12_closes_23 (fun H locs hw => ?_)
  rw [← e2] at hw
  exact r_vret C hw hf dX12_closes_24
set_option maxHeartbeats 4000000 in
set_option maxRecDepth 20000 in
theorem w_X12_closes_0 (C : Cx p s m args meth c D b cX12_closes 1 RX12 (none)) {r : Int} {μ' : Mem} {x0 : Int} {μ : Mem} {H : Heap} {locs : List Loc} {ls : Array Slot} (hf : f_X12_closes x0 μ = some (r, μ')) (t0 : isK x0 12) (hw : Hw D b μ s.heap H locs) (hl : lvh b ls 1 [(0, 2, x0)]) : W p l e (rm 10) s m args below meth c H locs 0 0 (QM below args s D b none μ') (F0 m 0 ls []) := by
  unfold f_X12_closes at hf
  refine r_aload_n C hl (kx := 0) rfl rfl dX12_closes_0 ?_
  refine r_bipush C (by decide) dX12_closes_1 ?_
  obtain ⟨r2, μ1, e3, hf⟩ := bn_some hf
  refine r_callVv C hw (K := [(0, 30)]) ok12 t0 (c_X12_eats l D b t0 e3) mi_X12_eats in_X12_eats se_X12_eats kl_12_155 rfl rfl (lvh_sz hl) (by decide) (Kr := []) rfl (Nat.le_of_ble_eq_true rfl) dX12_closes_3 (fun H locs hw => ?_)
  refine r_if_ne C (tgt := 14) (by decide) dX12_closes_6 (fun c4 => ?_) (fun c4 => ?_)
  · have hf := ite_f c4 hf
    exact w_X12_closes_14 C hf t0 hw (lvh_sub hl [0] rfl)
  · have hf := ite_t c4 hf
    refine r_aload_n C hl (kx := 0) rfl rfl dX12_closes_9 ?_
    refine r_iconst C dX12_closes_10 ?_
    obtain ⟨r6, μ5, e7, hf⟩ := bn_some hf
    refine r_callVn C hw (K := [(0, 2)]) ok12 t0 (c_X12_fails l D b t0 e7) mi_X12_fails in_X12_fails se_X12_fails kl_12_132 rfl rfl (lvh_sz hl) (by decide) (Kr := []) rfl (Nat.le_of_ble_eq_true rfl) dX12_closes_11 (fun H locs hw => ?_)
    exact w_X12_closes_14 C hf t0 hw (lvh_sub hl [0] rfl)
theorem c_X12_closes (l : Launch) (D : Ds) (b : Nat) {x0 : Int} {μ μ' : Mem} {r : Int} (t0 : isK x0 12) (hf : f_X12_closes x0 μ = some (r, μ')) : Ctr l D b yX12_closes cX12_closes 1 (none) 10 [(2, x0)] μ none μ' := by
  refine Ctr.of (by decide +kernel) (Nat.le_of_ble_eq_true rfl) ?_
  intro p e s m below meth c C hw ls hl
  exact w_X12_closes_0 C hf t0 hw hl
set_option maxHeartbeats 4000000 in
set_option maxRecDepth 20000 in
theorem w_X12_land_155 (C : Cx p s m args meth c D b cX12_land 3 RX12 (some .int)) {r : Int} {μ' : Mem} : ∀ (n : Nat) (x0 x2 : Int) (μ : Mem) (H : Heap) (locs : List Loc) (ls : Array Slot), f_X12_land_w155 n x0 x2 μ = some (r, μ') → isK x0 12 → Hw D b μ s.heap H locs → lvh b ls 3 [(0, 2, x0), (2, 0, x2)] → W p l e (rm 77) s m args below meth c H locs 0 0 (QM below args s D b (some (.int (jI r))) μ') (F0 m 155 ls []) := by
  intro n
  induction n with
  | zero => intro x0 x2 μ H locs ls hf; cases hf
  | succ n ih =>
    intro x0 x2 μ H locs ls hf t0 hw hl
    rw [f_X12_land_w155.eq_2] at hf
    refine r_iload_n C hl (kx := 1) rfl rfl dX12_land_155 ?_
    refine r_sipush C (by decide) dX12_land_156 ?_
    refine r_icmp_ge C (tgt := 180) (by decide) dX12_land_159 (fun c1 => ?_) (fun c1 => ?_)
    · have hf := ite_t c1 hf
      refine r_aload_n C hl (kx := 0) rfl rfl dX12_land_180 ?_
      refine gf_12_13 C hw t0 dX12_land_181 ?_
      refine r_iconst C dX12_land_184 ?_
      refine r_iald C hw (n := 3300) (ow_12_1 t0) (j := 0) (by decide) (by decide) (by decide) dX12_land_185 ?_
      exact r_iret C hw hf dX12_land_186
    · have hf := ite_f c1 hf
      refine r_aload_n C hl (kx := 0) rfl rfl dX12_land_162 ?_
      refine gf_12_13 C hw t0 dX12_land_163 ?_
      refine r_iload_n C hl (kx := 1) rfl rfl dX12_land_166 ?_
      refine r_aload_n C hl (kx := 0) rfl rfl dX12_land_167 ?_
      refine gf_12_24 C hw t0 dX12_land_168 ?_
      refine r_iload_n C hl (kx := 1) rfl rfl dX12_land_171 ?_
      obtain ⟨g2, hf⟩ := gd_some hf
      refine r_iald C hw (n := 1100) (ow_12_4 t0) (j := (nrm x2)) rfl g2 (by decide) dX12_land_172 ?_
      obtain ⟨g5, hf⟩ := gd_some hf
      obtain ⟨μ3, e4, hf⟩ := nm_some hf
      refine r_iast C hw (n := 3300) (ow_12_1 t0) (j := (nrm x2)) rfl g5 (by decide) dX12_land_173 (fun H locs hw => ?_)
      rw [← e4] at hw
      refine r_iinc C hl (kx := 1) rfl (by decide) (L' := [(2, 0, (x2 + 1)), (0, 2, x0)]) rfl dX12_land_174 (fun ls hl => ?_)
      refine r_goto C (tgt := 155) (by decide) dX12_land_177 ?_
      exact ih _ _ _ _ _ _ hf t0 hw (lvh_sub hl [1, 0] rfl)
set_option maxHeartbeats 4000000 in
set_option maxRecDepth 20000 in
theorem w_X12_land_135 (C : Cx p s m args meth c D b cX12_land 3 RX12 (some .int)) {r : Int} {μ' : Mem} {x0 s0 s1 : Int} {μ : Mem} {H : Heap} {locs : List Loc} {ls : Array Slot} (hf : f_X12_land_j135 x0 s0 s1 μ = some (r, μ')) (t0 : isK x0 12) (hw : Hw D b μ s.heap H locs) (hl : lvh b ls 3 [(0, 2, x0)]) : W p l e (rm 77) s m args below meth c H locs 0 0 (QM below args s D b (some (.int (jI r))) μ') (F0 m 135 ls [.int (jI s1), rfv b s0]) := by
  unfold f_X12_land_j135 at hf
  obtain ⟨g1, hf⟩ := gd_some hf
  obtain ⟨μ2, e3, hf⟩ := nm_some hf
  refine pf_12_27 C hw g1 dX12_land_135 (fun H locs hw => ?_)
  rw [← e3] at hw
  refine r_aload_n C hl (kx := 0) rfl rfl dX12_land_138 ?_
  refine gf_12_120 C hw t0 dX12_land_139 ?_
  refine r_if_eq C (tgt := 153) (by decide) dX12_land_142 (fun c4 => ?_) (fun c4 => ?_)
  · have hf := ite_t c4 hf
    refine r_iconst C dX12_land_153 ?_
    refine r_istore_n C hl (by decide) (L' := [(2, 0, 0), (0, 2, x0)]) rfl rfl dX12_land_154 (fun ls hl => ?_)
    exact w_X12_land_155 C FU _ _ _ _ _ _ hf t0 hw (lvh_sub hl [1, 0] rfl)
  · have hf := ite_f c4 hf
    refine r_bipush C (by decide) dX12_land_145 ?_
    refine r_aload_n C hl (kx := 0) rfl rfl dX12_land_147 ?_
    refine gf_12_120 C hw t0 dX12_land_148 ?_
    refine r_isub C dX12_land_151 ?_
    exact r_iret C hw hf dX12_land_152
set_option maxHeartbeats 4000000 in
set_option maxRecDepth 20000 in
theorem w_X12_land_111 (C : Cx p s m args meth c D b cX12_land 3 RX12 (some .int)) {r : Int} {μ' : Mem} {x0 : Int} {μ : Mem} {H : Heap} {locs : List Loc} {ls : Array Slot} (hf : f_X12_land_j111 x0 μ = some (r, μ')) (t0 : isK x0 12) (hw : Hw D b μ s.heap H locs) (hl : lvh b ls 3 [(0, 2, x0)]) : W p l e (rm 77) s m args below meth c H locs 0 0 (QM below args s D b (some (.int (jI r))) μ') (F0 m 111 ls []) := by
  unfold f_X12_land_j111 at hf
  refine r_aload_n C hl (kx := 0) rfl rfl dX12_land_111 ?_
  refine r_aload_n C hl (kx := 0) rfl rfl dX12_land_112 ?_
  refine gf_12_120 C hw t0 dX12_land_113 ?_
  obtain ⟨μ1, e2, hf⟩ := nm_some hf
  refine pf_12_205 C hw t0 dX12_land_116 (fun H locs hw => ?_)
  rw [← e2] at hw
  refine r_aload_n C hl (kx := 0) rfl rfl dX12_land_119 ?_
  refine r_aload_n C hl (kx := 0) rfl rfl dX12_land_120 ?_
  refine gf_12_120 C hw t0 dX12_land_121 ?_
  refine r_if_ne C (tgt := 131) (by decide) dX12_land_124 (fun c3 => ?_) (fun c3 => ?_)
  · have hf := ite_f c3 hf
    refine r_aload_n C hl (kx := 0) rfl rfl dX12_land_131 ?_
    refine gf_12_123 C hw t0 dX12_land_132 ?_
    exact w_X12_land_135 C hf t0 hw (lvh_sub hl [0] rfl)
  · have hf := ite_t c3 hf
    refine r_iconst C dX12_land_127 ?_
    refine r_goto C (tgt := 135) (by decide) dX12_land_128 ?_
    exact w_X12_land_135 C hf t0 hw (lvh_sub hl [0] rfl)
set_option maxHeartbeats 4000000 in
set_option maxRecDepth 20000 in
theorem w_X12_land_84 (C : Cx p s m args meth c D b cX12_land 3 RX12 (some .int)) {r : Int} {μ' : Mem} : ∀ (n : Nat) (x0 : Int) (μ : Mem) (H : Heap) (locs : List Loc) (ls : Array Slot), f_X12_land_w84 n x0 μ = some (r, μ') → isK x0 12 → Hw D b μ s.heap H locs → lvh b ls 3 [(0, 2, x0)] → W p l e (rm 77) s m args below meth c H locs 0 0 (QM below args s D b (some (.int (jI r))) μ') (F0 m 84 ls []) := by
  intro n
  induction n with
  | zero => intro x0 μ H locs ls hf; cases hf
  | succ n ih =>
    intro x0 μ H locs ls hf t0 hw hl
    rw [f_X12_land_w84.eq_2] at hf
    refine r_aload_n C hl (kx := 0) rfl rfl dX12_land_84 ?_
    refine gf_12_120 C hw t0 dX12_land_85 ?_
    refine r_if_ne C (tgt := 111) (by decide) dX12_land_88 (fun c1 => ?_) (fun c1 => ?_)
    · have hf := ite_f c1 hf
      exact w_X12_land_111 C hf t0 hw (lvh_sub hl [0] rfl)
    · have hf := ite_t c1 hf
      refine r_aload_n C hl (kx := 0) rfl rfl dX12_land_91 ?_
      refine gf_12_102 C hw t0 dX12_land_92 ?_
      refine r_bipush C (by decide) dX12_land_95 ?_
      refine r_icmp_eq C (tgt := 111) (by decide) dX12_land_97 (fun c2 => ?_) (fun c2 => ?_)
      · have hf := ite_t c2 hf
        exact w_X12_land_111 C hf t0 hw (lvh_sub hl [0] rfl)
      · have hf := ite_f c2 hf
        refine r_aload_n C hl (kx := 0) rfl rfl dX12_land_100 ?_
        obtain ⟨r4, μ3, e5, hf⟩ := bn_some hf
        refine r_callVn C hw (K := []) ok12 t0 (c_X12_readLine l D b t0 e5) mi_X12_readLine in_X12_readLine se_X12_readLine kl_12_202 rfl rfl (lvh_sz hl) (by decide) (Kr := []) rfl (Nat.le_of_ble_eq_true rfl) dX12_land_101 (fun H locs hw => ?_)
        refine r_aload_n C hl (kx := 0) rfl rfl dX12_land_104 ?_
        obtain ⟨r7, μ6, e8, hf⟩ := bn_some hf
        refine r_callVn C hw (K := []) ok12 t0 (c_X12_closes l D b t0 e8) mi_X12_closes in_X12_closes se_X12_closes kl_12_199 rfl rfl (lvh_sz hl) (by decide) (Kr := []) rfl (Nat.le_of_ble_eq_true rfl) dX12_land_105 (fun H locs hw => ?_)
        refine r_goto C (tgt := 84) (by decide) dX12_land_108 ?_
        exact ih _ _ _ _ _ hf t0 hw (lvh_sub hl [0] rfl)
set_option maxHeartbeats 4000000 in
set_option maxRecDepth 20000 in
theorem w_X12_land_66 (C : Cx p s m args meth c D b cX12_land 3 RX12 (some .int)) {r : Int} {μ' : Mem} {x0 : Int} {μ : Mem} {H : Heap} {locs : List Loc} {ls : Array Slot} (hf : f_X12_land_j66 x0 μ = some (r, μ')) (t0 : isK x0 12) (hw : Hw D b μ s.heap H locs) (hl : lvh b ls 3 [(0, 2, x0)]) : W p l e (rm 77) s m args below meth c H locs 0 0 (QM below args s D b (some (.int (jI r))) μ') (F0 m 66 ls []) := by
  unfold f_X12_land_j66 at hf
  refine r_aload_n C hl (kx := 0) rfl rfl dX12_land_66 ?_
  refine gf_12_24 C hw t0 dX12_land_67 ?_
  refine r_iconst C dX12_land_70 ?_
  refine r_aload_n C hl (kx := 0) rfl rfl dX12_land_71 ?_
  refine r_iconst C dX12_land_72 ?_
  refine r_iconst C dX12_land_73 ?_
  refine r_bipush C (by decide) dX12_land_74 ?_
  obtain ⟨r2, μ1, e3, hf⟩ := bn_some hf
  refine r_callVv C hw (K := [(0, 1), (0, 1), (0, 7)]) ok12 t0 (c_X12_named l D b t0 e3) mi_X12_named in_X12_named se_X12_named kl_12_183 rfl rfl (lvh_sz hl) (by decide) (Kr := [(0, 1), (2, (x0 + 4))]) rfl (Nat.le_of_ble_eq_true rfl) dX12_land_76 (fun H locs hw => ?_)
  obtain ⟨μ4, e5, hf⟩ := nm_some hf
  refine r_iast C hw (n := 1100) (ow_12_4 t0) (j := 1) (by decide) (by decide) (by decide) dX12_land_79 (fun H locs hw => ?_)
  rw [← e5] at hw
  refine r_aload_n C hl (kx := 0) rfl rfl dX12_land_80 ?_
  obtain ⟨r7, μ6, e8, hf⟩ := bn_some hf
  refine r_callVn C hw (K := []) ok12 t0 (c_X12_closes l D b t0 e8) mi_X12_closes in_X12_closes se_X12_closes kl_12_199 rfl rfl (lvh_sz hl) (by decide) (Kr := []) rfl (Nat.le_of_ble_eq_true rfl) dX12_land_81 (fun H locs hw => ?_)
  exact w_X12_land_84 C FU _ _ _ _ _ hf t0 hw (lvh_sub hl [0] rfl)
set_option maxHeartbeats 4000000 in
set_option maxRecDepth 20000 in
theorem w_X12_land_0 (C : Cx p s m args meth c D b cX12_land 3 RX12 (some .int)) {r : Int} {μ' : Mem} {x0 x1 : Int} {μ : Mem} {H : Heap} {locs : List Loc} {ls : Array Slot} (hf : f_X12_land x0 x1 μ = some (r, μ')) (t0 : isK x0 12) (hw : Hw D b μ s.heap H locs) (hl : lvh b ls 3 [(0, 2, x0), (1, 0, x1)]) : W p l e (rm 77) s m args below meth c H locs 0 0 (QM below args s D b (some (.int (jI r))) μ') (F0 m 0 ls []) := by
  unfold f_X12_land at hf
  refine r_aload_n C hl (kx := 0) rfl rfl dX12_land_0 ?_
  refine r_iconst C dX12_land_1 ?_
  obtain ⟨μ1, e2, hf⟩ := nm_some hf
  refine pf_12_1 C hw t0 dX12_land_2 (fun H locs hw => ?_)
  rw [← e2] at hw
  refine r_iload_n C hl (kx := 1) rfl rfl dX12_land_5 ?_
  refine r_i2l C dX12_land_6 ?_
  refine r_lconst C (z := 0) (by decide) dX12_land_7 ?_
  refine r_aload_n C hl (kx := 0) rfl rfl dX12_land_8 ?_
  refine gf_12_74 C hw t0 dX12_land_9 ?_
  refine r_i2l C dX12_land_12 ?_
  obtain ⟨r4, μ3, e5, hf⟩ := bn_some hf
  refine r_callSv C hw (K := [(1, (nrm x1)), (1, 0), (1, (nrm (μ1 x0 5)))]) (c_X12_within l D b e5) mi_X12_within st_X12_within kl_12_136 rfl rfl (lvh_sz hl) (by decide) (Kr := []) rfl (Nat.le_of_ble_eq_true rfl) dX12_land_13 (fun H locs hw => ?_)
  refine r_if_ne C (tgt := 22) (by decide) dX12_land_16 (fun c6 => ?_) (fun c6 => ?_)
  · have hf := ite_f c6 hf
    refine r_aload_n C hl (kx := 0) rfl rfl dX12_land_22 ?_
    refine r_iload_n C hl (kx := 1) rfl rfl dX12_land_23 ?_
    obtain ⟨μ7, e8, hf⟩ := nm_some hf
    refine pf_12_77 C hw t0 dX12_land_24 (fun H locs hw => ?_)
    rw [← e8] at hw
    refine r_aload_n C hl (kx := 0) rfl rfl dX12_land_27 ?_
    refine r_iconst C dX12_land_28 ?_
    obtain ⟨μ9, e10, hf⟩ := nm_some hf
    refine pf_12_74 C hw t0 dX12_land_29 (fun H locs hw => ?_)
    rw [← e10] at hw
    refine r_aload_n C hl (kx := 0) rfl rfl dX12_land_32 ?_
    refine r_iconst C dX12_land_33 ?_
    obtain ⟨μ11, e12, hf⟩ := nm_some hf
    refine pf_12_95 C hw t0 dX12_land_34 (fun H locs hw => ?_)
    rw [← e12] at hw
    refine r_aload_n C hl (kx := 0) rfl rfl dX12_land_37 ?_
    refine r_iconst C dX12_land_38 ?_
    obtain ⟨μ13, e14, hf⟩ := nm_some hf
    refine pf_12_120 C hw t0 dX12_land_39 (fun H locs hw => ?_)
    rw [← e14] at hw
    refine r_aload_n C hl (kx := 0) rfl rfl dX12_land_42 ?_
    refine gf_12_24 C hw t0 dX12_land_43 ?_
    obtain ⟨r16, μ15, e17, hf⟩ := bn_some hf
    refine r_callSn C hw (K := [(2, (x0 + 4))]) (c_X12_plain l D b e17) mi_X12_plain st_X12_plain kl_12_70 rfl rfl (lvh_sz hl) (by decide) (Kr := []) rfl (Nat.le_of_ble_eq_true rfl) dX12_land_46 (fun H locs hw => ?_)
    refine r_aload_n C hl (kx := 0) rfl rfl dX12_land_49 ?_
    obtain ⟨r19, μ18, e20, hf⟩ := bn_some hf
    refine r_callVn C hw (K := []) ok12 t0 (c_X12_next l D b t0 e20) mi_X12_next in_X12_next se_X12_next kl_12_129 rfl rfl (lvh_sz hl) (by decide) (Kr := []) rfl (Nat.le_of_ble_eq_true rfl) dX12_land_50 (fun H locs hw => ?_)
    refine r_aload_n C hl (kx := 0) rfl rfl dX12_land_53 ?_
    refine r_iconst C dX12_land_54 ?_
    obtain ⟨r22, μ21, e23, hf⟩ := bn_some hf
    refine r_callVv C hw (K := [(0, 0)]) ok12 t0 (c_X12_eats l D b t0 e23) mi_X12_eats in_X12_eats se_X12_eats kl_12_155 rfl rfl (lvh_sz hl) (by decide) (Kr := []) rfl (Nat.le_of_ble_eq_true rfl) dX12_land_55 (fun H locs hw => ?_)
    refine r_if_ne C (tgt := 66) (by decide) dX12_land_58 (fun c24 => ?_) (fun c24 => ?_)
    · have hf := ite_f c24 hf
      exact w_X12_land_66 C hf t0 hw (lvh_sub hl [0] rfl)
    · have hf := ite_t c24 hf
      refine r_aload_n C hl (kx := 0) rfl rfl dX12_land_61 ?_
      refine r_iconst C dX12_land_62 ?_
      obtain ⟨r26, μ25, e27, hf⟩ := bn_some hf
      refine r_callVn C hw (K := [(0, 2)]) ok12 t0 (c_X12_fails l D b t0 e27) mi_X12_fails in_X12_fails se_X12_fails kl_12_132 rfl rfl (lvh_sz hl) (by decide) (Kr := []) rfl (Nat.le_of_ble_eq_true rfl) dX12_land_63 (fun H locs hw => ?_)
      exact w_X12_land_66 C hf t0 hw (lvh_sub hl [0] rfl)
  · have hf := ite_t c6 hf
    refine r_bipush C (by decide) dX12_land_19 ?_
    exact r_iret C hw hf dX12_land_21
theorem c_X12_land (l : Launch) (D : Ds) (b : Nat) {x0 x1 : Int} {μ μ' : Mem} {r : Int} (t0 : isK x0 12) (hf : f_X12_land x0 x1 μ = some (r, μ')) : Ctr l D b yX12_land cX12_land 3 (some .int) 77 [(2, x0), (0, x1)] μ (some (.int (jI r))) μ' := by
  refine Ctr.of (by decide +kernel) (Nat.le_of_ble_eq_true rfl) ?_
  intro p e s m below meth c C hw ls hl
  exact w_X12_land_0 C hf t0 hw hl
set_option maxHeartbeats 4000000 in
set_option maxRecDepth 20000 in
theorem w_X12_fault_0 (C : Cx p s m args meth c D b cX12_fault 2 RX12 (some .int)) {r : Int} {μ' : Mem} {x0 x1 : Int} {μ : Mem} {H : Heap} {locs : List Loc} {ls : Array Slot} (hf : f_X12_fault x0 x1 μ = some (r, μ')) (t0 : isK x0 12) (hw : Hw D b μ s.heap H locs) (hl : lvh b ls 2 [(0, 2, x0), (1, 0, x1)]) : W p l e (rm 0) s m args below meth c H locs 0 0 (QM below args s D b (some (.int (jI r))) μ') (F0 m 0 ls []) := by
  unfold f_X12_fault at hf
  refine r_aload_n C hl (kx := 0) rfl rfl dX12_fault_0 ?_
  refine r_iconst C dX12_fault_1 ?_
  obtain ⟨μ1, e2, hf⟩ := nm_some hf
  refine pf_12_1 C hw t0 dX12_fault_2 (fun H locs hw => ?_)
  rw [← e2] at hw
  refine r_iload_n C hl (kx := 1) rfl rfl dX12_fault_5 ?_
  refine r_if_ne C (tgt := 16) (by decide) dX12_fault_6 (fun c3 => ?_) (fun c3 => ?_)
  · have hf := ite_f c3 hf
    refine r_iload_n C hl (kx := 1) rfl rfl dX12_fault_16 ?_
    refine r_iconst C dX12_fault_17 ?_
    refine r_icmp_ne C (tgt := 28) (by decide) dX12_fault_18 (fun c4 => ?_) (fun c4 => ?_)
    · have hf := ite_f c4 hf
      refine r_iconst C dX12_fault_28 ?_
      exact r_iret C hw hf dX12_fault_29
    · have hf := ite_t c4 hf
      refine r_aload_n C hl (kx := 0) rfl rfl dX12_fault_21 ?_
      refine gf_12_27 C hw t0 dX12_fault_22 ?_
      refine r_goto C (tgt := 29) (by decide) dX12_fault_25 ?_
      exact r_iret C hw hf dX12_fault_29
  · have hf := ite_t c3 hf
    refine r_aload_n C hl (kx := 0) rfl rfl dX12_fault_9 ?_
    refine gf_12_205 C hw t0 dX12_fault_10 ?_
    refine r_goto C (tgt := 29) (by decide) dX12_fault_13 ?_
    exact r_iret C hw hf dX12_fault_29
theorem c_X12_fault (l : Launch) (D : Ds) (b : Nat) {x0 x1 : Int} {μ μ' : Mem} {r : Int} (t0 : isK x0 12) (hf : f_X12_fault x0 x1 μ = some (r, μ')) : Ctr l D b yX12_fault cX12_fault 2 (some .int) 0 [(2, x0), (0, x1)] μ (some (.int (jI r))) μ' := by
  refine Ctr.of (by decide +kernel) (Nat.le_of_ble_eq_true rfl) ?_
  intro p e s m below meth c C hw ls hl
  exact w_X12_fault_0 C hf t0 hw hl
set_option maxHeartbeats 4000000 in
set_option maxRecDepth 20000 in
theorem w_X12_isPlace_0 (C : Cx p s m args meth c D b cX12_isPlace 2 RX12 (some .boolean)) {r : Int} {μ' : Mem} {x0 x1 : Int} {μ : Mem} {H : Heap} {locs : List Loc} {ls : Array Slot} (hf : f_X12_isPlace x0 x1 μ = some (r, μ')) (t0 : isK x0 12) (hw : Hw D b μ s.heap H locs) (hl : lvh b ls 2 [(0, 2, x0), (1, 0, x1)]) : W p l e (rm 1) s m args below meth c H locs 0 0 (QM below args s D b (some (.int (jI r))) μ') (F0 m 0 ls []) := by
  unfold f_X12_isPlace at hf
  refine r_iload_n C hl (kx := 1) rfl rfl dX12_isPlace_0 ?_
  refine r_i2l C dX12_isPlace_1 ?_
  refine r_lconst C (z := 0) (by decide) dX12_isPlace_2 ?_
  refine r_aload_n C hl (kx := 0) rfl rfl dX12_isPlace_3 ?_
  refine gf_12_13 C hw t0 dX12_isPlace_4 ?_
  refine r_iconst C dX12_isPlace_7 ?_
  refine r_iald C hw (n := 3300) (ow_12_1 t0) (j := 1) (by decide) (by decide) (by decide) dX12_isPlace_8 ?_
  refine r_iconst C dX12_isPlace_9 ?_
  refine r_isub C dX12_isPlace_10 ?_
  refine r_i2l C dX12_isPlace_11 ?_
  obtain ⟨r2, μ1, e3, hf⟩ := bn_some hf
  refine r_callSv C hw (K := [(1, (nrm x1)), (1, 0), (1, (nrm ((μ (x0 + 1) 1) - 1)))]) (c_X12_within l D b e3) mi_X12_within st_X12_within kl_12_136 rfl rfl (lvh_sz hl) (by decide) (Kr := []) rfl (Nat.le_of_ble_eq_true rfl) dX12_isPlace_12 (fun H locs hw => ?_)
  obtain ⟨g4, hf⟩ := gd_some hf
  exact r_zret C hw g4 hf dX12_isPlace_15
theorem c_X12_isPlace (l : Launch) (D : Ds) (b : Nat) {x0 x1 : Int} {μ μ' : Mem} {r : Int} (t0 : isK x0 12) (hf : f_X12_isPlace x0 x1 μ = some (r, μ')) : Ctr l D b yX12_isPlace cX12_isPlace 2 (some .boolean) 1 [(2, x0), (0, x1)] μ (some (.int (jI r))) μ' := by
  refine Ctr.of (by decide +kernel) (Nat.le_of_ble_eq_true rfl) ?_
  intro p e s m below meth c C hw ls hl
  exact w_X12_isPlace_0 C hf t0 hw hl
set_option maxHeartbeats 4000000 in
set_option maxRecDepth 20000 in
theorem w_X12_isLane_0 (C : Cx p s m args meth c D b cX12_isLane 3 RX12 (some .boolean)) {r : Int} {μ' : Mem} {x0 x1 : Int} {μ : Mem} {H : Heap} {locs : List Loc} {ls : Array Slot} (hf : f_X12_isLane x0 x1 μ = some (r, μ')) (t0 : isK x0 12) (hw : Hw D b μ s.heap H locs) (hl : lvh b ls 3 [(0, 2, x0), (1, 1, x1)]) : W p l e (rm 1) s m args below meth c H locs 0 0 (QM below args s D b (some (.int (jI r))) μ') (F0 m 0 ls []) := by
  unfold f_X12_isLane at hf
  refine r_lload_n C hl (kx := 1) rfl rfl dX12_isLane_0 ?_
  refine r_lconst C (z := 0) (by decide) dX12_isLane_1 ?_
  refine r_aload_n C hl (kx := 0) rfl rfl dX12_isLane_2 ?_
  refine gf_12_13 C hw t0 dX12_isLane_3 ?_
  refine r_iconst C dX12_isLane_6 ?_
  refine r_iald C hw (n := 3300) (ow_12_1 t0) (j := 2) (by decide) (by decide) (by decide) dX12_isLane_7 ?_
  refine r_iconst C dX12_isLane_8 ?_
  refine r_isub C dX12_isLane_9 ?_
  refine r_i2l C dX12_isLane_10 ?_
  obtain ⟨r2, μ1, e3, hf⟩ := bn_some hf
  refine r_callSv C hw (K := [(1, x1), (1, 0), (1, (nrm ((μ (x0 + 1) 2) - 1)))]) (c_X12_within l D b e3) mi_X12_within st_X12_within kl_12_136 rfl rfl (lvh_sz hl) (by decide) (Kr := []) rfl (Nat.le_of_ble_eq_true rfl) dX12_isLane_11 (fun H locs hw => ?_)
  obtain ⟨g4, hf⟩ := gd_some hf
  exact r_zret C hw g4 hf dX12_isLane_14
theorem c_X12_isLane (l : Launch) (D : Ds) (b : Nat) {x0 x1 : Int} {μ μ' : Mem} {r : Int} (t0 : isK x0 12) (hf : f_X12_isLane x0 x1 μ = some (r, μ')) : Ctr l D b yX12_isLane cX12_isLane 3 (some .boolean) 1 [(2, x0), (1, x1)] μ (some (.int (jI r))) μ' := by
  refine Ctr.of (by decide +kernel) (Nat.le_of_ble_eq_true rfl) ?_
  intro p e s m below meth c C hw ls hl
  exact w_X12_isLane_0 C hf t0 hw hl
set_option maxHeartbeats 4000000 in
set_option maxRecDepth 20000 in
theorem w_X12_isPerson_0 (C : Cx p s m args meth c D b cX12_isPerson 3 RX12 (some .boolean)) {r : Int} {μ' : Mem} {x0 x1 : Int} {μ : Mem} {H : Heap} {locs : List Loc} {ls : Array Slot} (hf : f_X12_isPerson x0 x1 μ = some (r, μ')) (t0 : isK x0 12) (hw : Hw D b μ s.heap H locs) (hl : lvh b ls 3 [(0, 2, x0), (1, 1, x1)]) : W p l e (rm 1) s m args below meth c H locs 0 0 (QM below args s D b (some (.int (jI r))) μ') (F0 m 0 ls []) := by
  unfold f_X12_isPerson at hf
  refine r_lload_n C hl (kx := 1) rfl rfl dX12_isPerson_0 ?_
  refine r_lconst C (z := 0) (by decide) dX12_isPerson_1 ?_
  refine r_aload_n C hl (kx := 0) rfl rfl dX12_isPerson_2 ?_
  refine gf_12_13 C hw t0 dX12_isPerson_3 ?_
  refine r_iconst C dX12_isPerson_6 ?_
  refine r_iald C hw (n := 3300) (ow_12_1 t0) (j := 3) (by decide) (by decide) (by decide) dX12_isPerson_7 ?_
  refine r_iconst C dX12_isPerson_8 ?_
  refine r_isub C dX12_isPerson_9 ?_
  refine r_i2l C dX12_isPerson_10 ?_
  obtain ⟨r2, μ1, e3, hf⟩ := bn_some hf
  refine r_callSv C hw (K := [(1, x1), (1, 0), (1, (nrm ((μ (x0 + 1) 3) - 1)))]) (c_X12_within l D b e3) mi_X12_within st_X12_within kl_12_136 rfl rfl (lvh_sz hl) (by decide) (Kr := []) rfl (Nat.le_of_ble_eq_true rfl) dX12_isPerson_11 (fun H locs hw => ?_)
  obtain ⟨g4, hf⟩ := gd_some hf
  exact r_zret C hw g4 hf dX12_isPerson_14
theorem c_X12_isPerson (l : Launch) (D : Ds) (b : Nat) {x0 x1 : Int} {μ μ' : Mem} {r : Int} (t0 : isK x0 12) (hf : f_X12_isPerson x0 x1 μ = some (r, μ')) : Ctr l D b yX12_isPerson cX12_isPerson 3 (some .boolean) 1 [(2, x0), (1, x1)] μ (some (.int (jI r))) μ' := by
  refine Ctr.of (by decide +kernel) (Nat.le_of_ble_eq_true rfl) ?_
  intro p e s m below meth c C hw ls hl
  exact w_X12_isPerson_0 C hf t0 hw hl
set_option maxHeartbeats 4000000 in
set_option maxRecDepth 20000 in
theorem w_X12_bitsOf_4 (C : Cx p s m args meth c D b cX12_bitsOf 3 RX12 (some .int)) {r : Int} {μ' : Mem} : ∀ (n : Nat) (x0 x1 x2 : Int) (μ : Mem) (H : Heap) (locs : List Loc) (ls : Array Slot), f_X12_bitsOf_w4 n x0 x1 x2 μ = some (r, μ') → Hw D b μ s.heap H locs → lvh b ls 3 [(0, 0, x0), (1, 0, x1), (2, 0, x2)] → W p l e (rm 0) s m args below meth c H locs 0 0 (QM below args s D b (some (.int (jI r))) μ') (F0 m 4 ls []) := by
  intro n
  induction n with
  | zero => intro x0 x1 x2 μ H locs ls hf; cases hf
  | succ n ih =>
    intro x0 x1 x2 μ H locs ls hf hw hl
    rw [f_X12_bitsOf_w4.eq_2] at hf
    refine r_iload_n C hl (kx := 2) rfl rfl dX12_bitsOf_4 ?_
    refine r_bipush C (by decide) dX12_bitsOf_5 ?_
    refine r_icmp_ge C (tgt := 24) (by decide) dX12_bitsOf_7 (fun c1 => ?_) (fun c1 => ?_)
    · have hf := ite_t c1 hf
      refine r_iload_n C hl (kx := 1) rfl rfl dX12_bitsOf_24 ?_
      exact r_iret C hw hf dX12_bitsOf_25
    · have hf := ite_f c1 hf
      refine r_iload_n C hl (kx := 1) rfl rfl dX12_bitsOf_10 ?_
      refine r_iload_n C hl (kx := 0) rfl rfl dX12_bitsOf_11 ?_
      refine r_iload_n C hl (kx := 2) rfl rfl dX12_bitsOf_12 ?_
      refine r_ishr C dX12_bitsOf_13 ?_
      refine r_iconst C dX12_bitsOf_14 ?_
      refine r_iand C dX12_bitsOf_15 ?_
      refine r_iadd C dX12_bitsOf_16 ?_
      obtain ⟨v2, e3, hf⟩ := nm_some hf
      refine top_i e3 ?_
      refine r_istore_n C hl (by decide) (L' := [(1, 0, v2), (0, 0, x0), (2, 0, x2)]) rfl rfl dX12_bitsOf_17 (fun ls hl => ?_)
      refine r_iinc C hl (kx := 2) rfl (by decide) (L' := [(2, 0, (x2 + 1)), (1, 0, v2), (0, 0, x0)]) rfl dX12_bitsOf_18 (fun ls hl => ?_)
      refine r_goto C (tgt := 4) (by decide) dX12_bitsOf_21 ?_
      exact ih _ _ _ _ _ _ _ hf hw (lvh_sub hl [2, 1, 0] rfl)
set_option maxHeartbeats 4000000 in
set_option maxRecDepth 20000 in
theorem w_X12_bitsOf_0 (C : Cx p s m args meth c D b cX12_bitsOf 3 RX12 (some .int)) {r : Int} {μ' : Mem} {x0 : Int} {μ : Mem} {H : Heap} {locs : List Loc} {ls : Array Slot} (hf : f_X12_bitsOf x0 μ = some (r, μ')) (hw : Hw D b μ s.heap H locs) (hl : lvh b ls 3 [(0, 0, x0)]) : W p l e (rm 0) s m args below meth c H locs 0 0 (QM below args s D b (some (.int (jI r))) μ') (F0 m 0 ls []) := by
  unfold f_X12_bitsOf at hf
  refine r_iconst C dX12_bitsOf_0 ?_
  refine r_istore_n C hl (by decide) (L' := [(1, 0, 0), (0, 0, x0)]) rfl rfl dX12_bitsOf_1 (fun ls hl => ?_)
  refine r_iconst C dX12_bitsOf_2 ?_
  refine r_istore_n C hl (by decide) (L' := [(2, 0, 0), (1, 0, 0), (0, 0, x0)]) rfl rfl dX12_bitsOf_3 (fun ls hl => ?_)
  exact w_X12_bitsOf_4 C FU _ _ _ _ _ _ _ hf hw (lvh_sub hl [2, 1, 0] rfl)
theorem c_X12_bitsOf (l : Launch) (D : Ds) (b : Nat) {x0 : Int} {μ μ' : Mem} {r : Int} (hf : f_X12_bitsOf x0 μ = some (r, μ')) : Ctr l D b yX12_bitsOf cX12_bitsOf 3 (some .int) 0 [(0, x0)] μ (some (.int (jI r))) μ' := by
  refine Ctr.of (by decide +kernel) (Nat.le_of_ble_eq_true rfl) ?_
  intro p e s m below meth c C hw ls hl
  exact w_X12_bitsOf_0 C hf hw hl
set_option maxHeartbeats 4000000 in
set_option maxRecDepth 20000 in
theorem w_X12_otherEnd_0 (C : Cx p s m args meth c D b cX12_otherEnd 3 RX12 (some .int)) {r : Int} {μ' : Mem} {x0 x1 x2 : Int} {μ : Mem} {H : Heap} {locs : List Loc} {ls : Array Slot} (hf : f_X12_otherEnd x0 x1 x2 μ = some (r, μ')) (t0 : isK x0 12) (hw : Hw D b μ s.heap H locs) (hl : lvh b ls 3 [(0, 2, x0), (1, 0, x1), (2, 0, x2)]) : W p l e (rm 0) s m args below meth c H locs 0 0 (QM below args s D b (some (.int (jI r))) μ') (F0 m 0 ls []) := by
  unfold f_X12_otherEnd at hf
  refine r_aload_n C hl (kx := 0) rfl rfl dX12_otherEnd_0 ?_
  refine gf_12_13 C hw t0 dX12_otherEnd_1 ?_
  refine r_bipush C (by decide) dX12_otherEnd_4 ?_
  refine r_iload_n C hl (kx := 1) rfl rfl dX12_otherEnd_6 ?_
  refine r_iadd C dX12_otherEnd_7 ?_
  obtain ⟨g1, hf⟩ := gd_some hf
  refine r_iald C hw (n := 3300) (ow_12_1 t0) (j := (nrm (11 + x1))) rfl g1 (by decide) dX12_otherEnd_8 ?_
  refine r_iload_n C hl (kx := 2) rfl rfl dX12_otherEnd_9 ?_
  refine r_icmp_ne C (tgt := 25) (by decide) dX12_otherEnd_10 (fun c2 => ?_) (fun c2 => ?_)
  · have hf := ite_f c2 hf
    refine r_aload_n C hl (kx := 0) rfl rfl dX12_otherEnd_25 ?_
    refine gf_12_13 C hw t0 dX12_otherEnd_26 ?_
    refine r_bipush C (by decide) dX12_otherEnd_29 ?_
    refine r_iload_n C hl (kx := 1) rfl rfl dX12_otherEnd_31 ?_
    refine r_iadd C dX12_otherEnd_32 ?_
    obtain ⟨g3, hf⟩ := gd_some hf
    refine r_iald C hw (n := 3300) (ow_12_1 t0) (j := (nrm (20 + x1))) rfl g3 (by decide) dX12_otherEnd_33 ?_
    refine r_iload_n C hl (kx := 2) rfl rfl dX12_otherEnd_34 ?_
    refine r_icmp_ne C (tgt := 50) (by decide) dX12_otherEnd_35 (fun c4 => ?_) (fun c4 => ?_)
    · have hf := ite_f c4 hf
      refine r_iconst C dX12_otherEnd_50 ?_
      exact r_iret C hw hf dX12_otherEnd_51
    · have hf := ite_t c4 hf
      refine r_aload_n C hl (kx := 0) rfl rfl dX12_otherEnd_38 ?_
      refine gf_12_13 C hw t0 dX12_otherEnd_39 ?_
      refine r_bipush C (by decide) dX12_otherEnd_42 ?_
      refine r_iload_n C hl (kx := 1) rfl rfl dX12_otherEnd_44 ?_
      refine r_iadd C dX12_otherEnd_45 ?_
      obtain ⟨g5, hf⟩ := gd_some hf
      refine r_iald C hw (n := 3300) (ow_12_1 t0) (j := (nrm (11 + x1))) rfl g5 (by decide) dX12_otherEnd_46 ?_
      refine r_goto C (tgt := 51) (by decide) dX12_otherEnd_47 ?_
      exact r_iret C hw hf dX12_otherEnd_51
  · have hf := ite_t c2 hf
    refine r_aload_n C hl (kx := 0) rfl rfl dX12_otherEnd_13 ?_
    refine gf_12_13 C hw t0 dX12_otherEnd_14 ?_
    refine r_bipush C (by decide) dX12_otherEnd_17 ?_
    refine r_iload_n C hl (kx := 1) rfl rfl dX12_otherEnd_19 ?_
    refine r_iadd C dX12_otherEnd_20 ?_
    obtain ⟨g6, hf⟩ := gd_some hf
    refine r_iald C hw (n := 3300) (ow_12_1 t0) (j := (nrm (20 + x1))) rfl g6 (by decide) dX12_otherEnd_21 ?_
    refine r_goto C (tgt := 51) (by decide) dX12_otherEnd_22 ?_
    exact r_iret C hw hf dX12_otherEnd_51
theorem c_X12_otherEnd (l : Launch) (D : Ds) (b : Nat) {x0 x1 x2 : Int} {μ μ' : Mem} {r : Int} (t0 : isK x0 12) (hf : f_X12_otherEnd x0 x1 x2 μ = some (r, μ')) : Ctr l D b yX12_otherEnd cX12_otherEnd 3 (some .int) 0 [(2, x0), (0, x1), (0, x2)] μ (some (.int (jI r))) μ' := by
  refine Ctr.of (by decide +kernel) (Nat.le_of_ble_eq_true rfl) ?_
  intro p e s m below meth c C hw ls hl
  exact w_X12_otherEnd_0 C hf t0 hw hl
set_option maxHeartbeats 4000000 in
set_option maxRecDepth 20000 in
theorem w_X12_between_116 (C : Cx p s m args meth c D b cX12_between 5 RX12 (some .int)) {r : Int} {μ' : Mem} {s0 : Int} {μ : Mem} {H : Heap} {locs : List Loc} {ls : Array Slot} (hf : f_X12_between_j116 s0 μ = some (r, μ')) (hw : Hw D b μ s.heap H locs) (hl : lvh b ls 5 []) : W p l e (rm 0) s m args below meth c H locs 0 0 (QM below args s D b (some (.int (jI r))) μ') (F0 m 116 ls [.long (jL s0)]) := by
  unfold f_X12_between_j116 at hf
  refine r_lstore_n C hl (by decide) (L' := [(3, 1, s0)]) rfl rfl dX12_between_116 (fun ls hl => ?_)
  refine r_lload_n C hl (kx := 0) rfl rfl dX12_between_117 ?_
  refine r_ldc2 C (z := 1000000) (by decide) kw1603 dX12_between_118 ?_
  refine r_lcmp C dX12_between_121 ?_
  refine r_if_le C (tgt := 131) (by decide) dX12_between_122 (fun c1 => ?_) (fun c1 => ?_)
  · have hf := ite_t c1 hf
    refine r_lload_n C hl (kx := 0) rfl rfl dX12_between_131 ?_
    refine r_ldc2 C (z := (-1000000)) (by decide) kw1604 dX12_between_132 ?_
    refine r_lcmp C dX12_between_135 ?_
    refine r_if_ge C (tgt := 145) (by decide) dX12_between_136 (fun c2 => ?_) (fun c2 => ?_)
    · have hf := ite_t c2 hf
      refine r_lload_n C hl (kx := 0) rfl rfl dX12_between_145 ?_
      refine r_l2i C dX12_between_146 ?_
      exact r_iret C hw hf dX12_between_147
    · have hf := ite_f c2 hf
      refine r_ldc2 C (z := (-1000000)) (by decide) kw1604 dX12_between_139 ?_
      refine r_goto C (tgt := 146) (by decide) dX12_between_142 ?_
      refine r_l2i C dX12_between_146 ?_
      exact r_iret C hw hf dX12_between_147
  · have hf := ite_f c1 hf
    refine r_ldc2 C (z := 1000000) (by decide) kw1603 dX12_between_125 ?_
    refine r_goto C (tgt := 146) (by decide) dX12_between_128 ?_
    refine r_l2i C dX12_between_146 ?_
    exact r_iret C hw hf dX12_between_147
set_option maxHeartbeats 4000000 in
set_option maxRecDepth 20000 in
theorem w_X12_between_81 (C : Cx p s m args meth c D b cX12_between 5 RX12 (some .int)) {r : Int} {μ' : Mem} {x0 x1 x2 : Int} {μ : Mem} {H : Heap} {locs : List Loc} {ls : Array Slot} (hf : f_X12_between_j81 x0 x1 x2 μ = some (r, μ')) (hw : Hw D b μ s.heap H locs) (hl : lvh b ls 5 [(0, 0, x0), (1, 0, x1), (2, 0, x2)]) : W p l e (rm 0) s m args below meth c H locs 0 0 (QM below args s D b (some (.int (jI r))) μ') (F0 m 81 ls []) := by
  unfold f_X12_between_j81 at hf
  refine r_iload_n C hl (kx := 0) rfl rfl dX12_between_81 ?_
  refine r_sipush C (by decide) dX12_between_82 ?_
  refine r_icmp_ne C (tgt := 96) (by decide) dX12_between_85 (fun c1 => ?_) (fun c1 => ?_)
  · have hf := ite_f c1 hf
    refine r_iload_n C hl (kx := 0) rfl rfl dX12_between_96 ?_
    refine r_sipush C (by decide) dX12_between_97 ?_
    refine r_icmp_ne C (tgt := 111) (by decide) dX12_between_100 (fun c2 => ?_) (fun c2 => ?_)
    · have hf := ite_f c2 hf
      refine r_iload_n C hl (kx := 1) rfl rfl dX12_between_111 ?_
      refine r_i2l C dX12_between_112 ?_
      refine r_iload_n C hl (kx := 2) rfl rfl dX12_between_113 ?_
      refine r_i2l C dX12_between_114 ?_
      refine r_lmul C dX12_between_115 ?_
      exact w_X12_between_116 C hf hw (lvh_sub hl [] rfl)
    · have hf := ite_t c2 hf
      refine r_iload_n C hl (kx := 1) rfl rfl dX12_between_103 ?_
      refine r_i2l C dX12_between_104 ?_
      refine r_iload_n C hl (kx := 2) rfl rfl dX12_between_105 ?_
      refine r_i2l C dX12_between_106 ?_
      refine r_lsub C dX12_between_107 ?_
      refine r_goto C (tgt := 116) (by decide) dX12_between_108 ?_
      exact w_X12_between_116 C hf hw (lvh_sub hl [] rfl)
  · have hf := ite_t c1 hf
    refine r_iload_n C hl (kx := 1) rfl rfl dX12_between_88 ?_
    refine r_i2l C dX12_between_89 ?_
    refine r_iload_n C hl (kx := 2) rfl rfl dX12_between_90 ?_
    refine r_i2l C dX12_between_91 ?_
    refine r_ladd C dX12_between_92 ?_
    refine r_goto C (tgt := 116) (by decide) dX12_between_93 ?_
    exact w_X12_between_116 C hf hw (lvh_sub hl [] rfl)
set_option maxHeartbeats 4000000 in
set_option maxRecDepth 20000 in
theorem w_X12_between_0 (C : Cx p s m args meth c D b cX12_between 5 RX12 (some .int)) {r : Int} {μ' : Mem} {x0 x1 x2 : Int} {μ : Mem} {H : Heap} {locs : List Loc} {ls : Array Slot} (hf : f_X12_between x0 x1 x2 μ = some (r, μ')) (hw : Hw D b μ s.heap H locs) (hl : lvh b ls 5 [(0, 0, x0), (1, 0, x1), (2, 0, x2)]) : W p l e (rm 0) s m args below meth c H locs 0 0 (QM below args s D b (some (.int (jI r))) μ') (F0 m 0 ls []) := by
  unfold f_X12_between at hf
  refine r_iload_n C hl (kx := 0) rfl rfl dX12_between_0 ?_
  rcases Decidable.em (nrm x0 = 3003) with c1 | c1
  · have hf := ite_t c1 hf
    refine r_tabIn C (tgt := 40) c1 (by decide) (by decide) rfl (by decide) dX12_between_1 ?_
    refine r_iload_n C hl (kx := 1) rfl rfl dX12_between_40 ?_
    refine r_iload_n C hl (kx := 2) rfl rfl dX12_between_41 ?_
    refine r_icmp_ne C (tgt := 49) (by decide) dX12_between_42 (fun c2 => ?_) (fun c2 => ?_)
    · have hf := ite_f c2 hf
      refine r_iconst C dX12_between_49 ?_
      exact r_iret C hw hf dX12_between_50
    · have hf := ite_t c2 hf
      refine r_iconst C dX12_between_45 ?_
      refine r_goto C (tgt := 50) (by decide) dX12_between_46 ?_
      exact r_iret C hw hf dX12_between_50
  have hf := ite_f c1 hf
  rcases Decidable.em (nrm x0 = 3004) with c3 | c3
  · have hf := ite_t c3 hf
    refine r_tabIn C (tgt := 51) c3 (by decide) (by decide) rfl (by decide) dX12_between_1 ?_
    refine r_iload_n C hl (kx := 1) rfl rfl dX12_between_51 ?_
    refine r_iload_n C hl (kx := 2) rfl rfl dX12_between_52 ?_
    refine r_icmp_ge C (tgt := 60) (by decide) dX12_between_53 (fun c4 => ?_) (fun c4 => ?_)
    · have hf := ite_t c4 hf
      refine r_iconst C dX12_between_60 ?_
      exact r_iret C hw hf dX12_between_61
    · have hf := ite_f c4 hf
      refine r_iconst C dX12_between_56 ?_
      refine r_goto C (tgt := 61) (by decide) dX12_between_57 ?_
      exact r_iret C hw hf dX12_between_61
  have hf := ite_f c3 hf
  rcases Decidable.em (nrm x0 = 3005) with c5 | c5
  · have hf := ite_t c5 hf
    refine r_tabIn C (tgt := 62) c5 (by decide) (by decide) rfl (by decide) dX12_between_1 ?_
    refine r_iload_n C hl (kx := 1) rfl rfl dX12_between_62 ?_
    refine r_iload_n C hl (kx := 2) rfl rfl dX12_between_63 ?_
    refine r_icmp_le C (tgt := 71) (by decide) dX12_between_64 (fun c6 => ?_) (fun c6 => ?_)
    · have hf := ite_t c6 hf
      refine r_iconst C dX12_between_71 ?_
      exact r_iret C hw hf dX12_between_72
    · have hf := ite_f c6 hf
      refine r_iconst C dX12_between_67 ?_
      refine r_goto C (tgt := 72) (by decide) dX12_between_68 ?_
      exact r_iret C hw hf dX12_between_72
  have hf := ite_f c5 hf
  rcases Decidable.em (nrm x0 = 3007) with c7 | c7
  · have hf := ite_t c7 hf
    refine r_tabIn C (tgt := 73) c7 (by decide) (by decide) rfl (by decide) dX12_between_1 ?_
    refine r_iload_n C hl (kx := 1) rfl rfl dX12_between_73 ?_
    refine r_iload_n C hl (kx := 2) rfl rfl dX12_between_74 ?_
    refine r_iand C dX12_between_75 ?_
    exact r_iret C hw hf dX12_between_76
  have hf := ite_f c7 hf
  rcases Decidable.em (nrm x0 = 3008) with c8 | c8
  · have hf := ite_t c8 hf
    refine r_tabIn C (tgt := 77) c8 (by decide) (by decide) rfl (by decide) dX12_between_1 ?_
    refine r_iload_n C hl (kx := 1) rfl rfl dX12_between_77 ?_
    refine r_iload_n C hl (kx := 2) rfl rfl dX12_between_78 ?_
    refine r_ior C dX12_between_79 ?_
    exact r_iret C hw hf dX12_between_80
  have hf := ite_f c8 hf
  have hdef : W p l e (rm 0) s m args below meth c H locs 0 0 (QM below args s D b (some (.int (jI r))) μ') (F0 m 81 ls []) := by
    exact w_X12_between_81 C hf hw (lvh_sub hl [0, 1, 2] rfl)
  rcases Decidable.em (nrm x0 = 3006) with c9 | c9
  · exact r_tabIn C (tgt := 81) c9 (by decide) (by decide) rfl (by decide) dX12_between_1 hdef
  exact r_tabOut C (tgt := 81) (by omega) (by decide) dX12_between_1 hdef
theorem c_X12_between (l : Launch) (D : Ds) (b : Nat) {x0 x1 x2 : Int} {μ μ' : Mem} {r : Int} (hf : f_X12_between x0 x1 x2 μ = some (r, μ')) : Ctr l D b yX12_between cX12_between 5 (some .int) 0 [(0, x0), (0, x1), (0, x2)] μ (some (.int (jI r))) μ' := by
  refine Ctr.of (by decide +kernel) (Nat.le_of_ble_eq_true rfl) ?_
  intro p e s m below meth c C hw ls hl
  exact w_X12_between_0 C hf hw hl
set_option maxHeartbeats 4000000 in
set_option maxRecDepth 20000 in
theorem w_X12_reckons_272 (C : Cx p s m args meth c D b cX12_reckons 8 RX12 (some .int)) {r : Int} {μ' : Mem} (k71 : Int → Int → Int → Int → Mem → Option (Int × Mem)) (h71 : ∀ (x0 x1 x5 x6 : Int) (μ : Mem) (H : Heap) (locs : List Loc) (ls : Array Slot), k71 x0 x1 x5 x6 μ = some (r, μ') → isK x0 12 → Hw D b μ s.heap H locs → lvh b ls 8 [(0, 2, x0), (1, 0, x1), (5, 0, x5), (6, 0, x6)] → W p l e (rm 1) s m args below meth c H locs 0 0 (QM below args s D b (some (.int (jI r))) μ') (F0 m 71 ls [])) {x0 x1 x5 x6 : Int} {μ : Mem} {H : Heap} {locs : List Loc} {ls : Array Slot} (hf : f_X12_reckons_j272 k71 x0 x1 x5 x6 μ = some (r, μ')) (t0 : isK x0 12) (hw : Hw D b μ s.heap H locs) (hl : lvh b ls 8 [(0, 2, x0), (1, 0, x1), (5, 0, x5), (6, 0, x6)]) : W p l e (rm 1) s m args below meth c H locs 0 0 (QM below args s D b (some (.int (jI r))) μ') (F0 m 272 ls []) := by
  unfold f_X12_reckons_j272 at hf
  refine r_iinc C hl (kx := 3) rfl (by decide) (L' := [(6, 0, (x6 + 1)), (0, 2, x0), (1, 0, x1), (5, 0, x5)]) rfl dX12_reckons_272 (fun ls hl => ?_)
  refine r_goto C (tgt := 71) (by decide) dX12_reckons_275 ?_
  exact h71 _ _ _ _ _ _ _ _ hf t0 hw (lvh_sub hl [1, 2, 3, 0] rfl)
set_option maxHeartbeats 4000000 in
set_option maxRecDepth 20000 in
theorem w_X12_reckons_235 (C : Cx p s m args meth c D b cX12_reckons 8 RX12 (some .int)) {r : Int} {μ' : Mem} (k71 : Int → Int → Int → Int → Mem → Option (Int × Mem)) (h71 : ∀ (x0 x1 x5 x6 : Int) (μ : Mem) (H : Heap) (locs : List Loc) (ls : Array Slot), k71 x0 x1 x5 x6 μ = some (r, μ') → isK x0 12 → Hw D b μ s.heap H locs → lvh b ls 8 [(0, 2, x0), (1, 0, x1), (5, 0, x5), (6, 0, x6)] → W p l e (rm 1) s m args below meth c H locs 0 0 (QM below args s D b (some (.int (jI r))) μ') (F0 m 71 ls [])) {x0 x1 x5 x6 s0 s1 s2 : Int} {μ : Mem} {H : Heap} {locs : List Loc} {ls : Array Slot} (hf : f_X12_reckons_j235 k71 x0 x1 x5 x6 s0 s1 s2 μ = some (r, μ')) (t0 : isK x0 12) (hw : Hw D b μ s.heap H locs) (hl : lvh b ls 8 [(0, 2, x0), (1, 0, x1), (5, 0, x5), (6, 0, x6)]) : W p l e (rm 1) s m args below meth c H locs 0 0 (QM below args s D b (some (.int (jI r))) μ') (F0 m 235 ls [.int (jI s2), .int (jI s1), rfv b s0]) := by
  unfold f_X12_reckons_j235 at hf
  obtain ⟨g3, hf⟩ := gd_some hf
  obtain ⟨μ1, e2, hf⟩ := nm_some hf
  refine r_iastA C hw g3 dX12_reckons_235 (fun H locs hw => ?_)
  rw [← e2] at hw
  refine r_goto C (tgt := 272) (by decide) dX12_reckons_236 ?_
  exact w_X12_reckons_272 C _ h71 hf t0 hw (lvh_sub hl [0, 1, 2, 3] rfl)
set_option maxHeartbeats 4000000 in
set_option maxRecDepth 20000 in
theorem w_X12_reckons_146 (C : Cx p s m args meth c D b cX12_reckons 8 RX12 (some .int)) {r : Int} {μ' : Mem} (k71 : Int → Int → Int → Int → Mem → Option (Int × Mem)) (h71 : ∀ (x0 x1 x5 x6 : Int) (μ : Mem) (H : Heap) (locs : List Loc) (ls : Array Slot), k71 x0 x1 x5 x6 μ = some (r, μ') → isK x0 12 → Hw D b μ s.heap H locs → lvh b ls 8 [(0, 2, x0), (1, 0, x1), (5, 0, x5), (6, 0, x6)] → W p l e (rm 1) s m args below meth c H locs 0 0 (QM below args s D b (some (.int (jI r))) μ') (F0 m 71 ls [])) {x0 x1 x5 x6 s0 s1 s2 : Int} {μ : Mem} {H : Heap} {locs : List Loc} {ls : Array Slot} (hf : f_X12_reckons_j146 k71 x0 x1 x5 x6 s0 s1 s2 μ = some (r, μ')) (t0 : isK x0 12) (hw : Hw D b μ s.heap H locs) (hl : lvh b ls 8 [(0, 2, x0), (1, 0, x1), (5, 0, x5), (6, 0, x6)]) : W p l e (rm 1) s m args below meth c H locs 0 0 (QM below args s D b (some (.int (jI r))) μ') (F0 m 146 ls [.int (jI s2), .int (jI s1), rfv b s0]) := by
  unfold f_X12_reckons_j146 at hf
  obtain ⟨g3, hf⟩ := gd_some hf
  obtain ⟨μ1, e2, hf⟩ := nm_some hf
  refine r_iastA C hw g3 dX12_reckons_146 (fun H locs hw => ?_)
  rw [← e2] at hw
  refine r_iinc C hl (kx := 2) rfl (by decide) (L' := [(5, 0, (x5 + 1)), (0, 2, x0), (1, 0, x1), (6, 0, x6)]) rfl dX12_reckons_147 (fun ls hl => ?_)
  refine r_goto C (tgt := 272) (by decide) dX12_reckons_150 ?_
  exact w_X12_reckons_272 C _ h71 hf t0 hw (lvh_sub hl [1, 2, 0, 3] rfl)
set_option maxHeartbeats 4000000 in
set_option maxRecDepth 20000 in
theorem w_X12_reckons_71 (C : Cx p s m args meth c D b cX12_reckons 8 RX12 (some .int)) {r : Int} {μ' : Mem} : ∀ (n : Nat) (x0 x1 x5 x6 : Int) (μ : Mem) (H : Heap) (locs : List Loc) (ls : Array Slot), f_X12_reckons_w71 n x0 x1 x5 x6 μ = some (r, μ') → isK x0 12 → Hw D b μ s.heap H locs → lvh b ls 8 [(0, 2, x0), (1, 0, x1), (5, 0, x5), (6, 0, x6)] → W p l e (rm 1) s m args below meth c H locs 0 0 (QM below args s D b (some (.int (jI r))) μ') (F0 m 71 ls []) := by
  intro n
  induction n with
  | zero => intro x0 x1 x5 x6 μ H locs ls hf; cases hf
  | succ n ih =>
    intro x0 x1 x5 x6 μ H locs ls hf t0 hw hl
    rw [f_X12_reckons_w71.eq_2] at hf
    refine r_iload C hl (kx := 3) rfl dX12_reckons_71 ?_
    refine r_aload_n C hl (kx := 0) rfl rfl dX12_reckons_73 ?_
    refine gf_12_13 C hw t0 dX12_reckons_74 ?_
    refine r_bipush C (by decide) dX12_reckons_77 ?_
    refine r_iload_n C hl (kx := 1) rfl rfl dX12_reckons_79 ?_
    refine r_iadd C dX12_reckons_80 ?_
    obtain ⟨g1, hf⟩ := gd_some hf
    refine r_iald C hw (n := 3300) (ow_12_1 t0) (j := (nrm (9 + x1))) rfl g1 (by decide) dX12_reckons_81 ?_
    refine r_icmp_ge C (tgt := 278) (by decide) dX12_reckons_82 (fun c2 => ?_) (fun c2 => ?_)
    · have hf := ite_t c2 hf
      refine r_aload_n C hl (kx := 0) rfl rfl dX12_reckons_278 ?_
      refine gf_12_30 C hw t0 dX12_reckons_279 ?_
      refine r_iconst C dX12_reckons_282 ?_
      refine r_iald C hw (n := 900) (ow_12_16 t0) (j := 0) (by decide) (by decide) (by decide) dX12_reckons_283 ?_
      exact r_iret C hw hf dX12_reckons_284
    · have hf := ite_f c2 hf
      refine r_aload_n C hl (kx := 0) rfl rfl dX12_reckons_85 ?_
      refine gf_12_13 C hw t0 dX12_reckons_86 ?_
      refine r_sipush C (by decide) dX12_reckons_89 ?_
      refine r_aload_n C hl (kx := 0) rfl rfl dX12_reckons_92 ?_
      refine gf_12_13 C hw t0 dX12_reckons_93 ?_
      refine r_bipush C (by decide) dX12_reckons_96 ?_
      refine r_iload_n C hl (kx := 1) rfl rfl dX12_reckons_98 ?_
      refine r_iadd C dX12_reckons_99 ?_
      obtain ⟨g3, hf⟩ := gd_some hf
      refine r_iald C hw (n := 3300) (ow_12_1 t0) (j := (nrm (7 + x1))) rfl g3 (by decide) dX12_reckons_100 ?_
      refine r_iadd C dX12_reckons_101 ?_
      refine r_iload C hl (kx := 3) rfl dX12_reckons_102 ?_
      refine r_iadd C dX12_reckons_104 ?_
      obtain ⟨g4, hf⟩ := gd_some hf
      refine r_iald C hw (n := 3300) (ow_12_1 t0) (j := (nrm ((200 + (μ (x0 + 1) (nrm (7 + x1)))) + x6))) rfl g4 (by decide) dX12_reckons_105 ?_
      obtain ⟨v5, e6, hf⟩ := nm_some hf
      refine top_i e6 ?_
      refine r_istore C hl (by decide) (L' := [(7, 0, v5), (0, 2, x0), (1, 0, x1), (5, 0, x5), (6, 0, x6)]) rfl dX12_reckons_106 (fun ls hl => ?_)
      refine r_iload C hl (kx := 0) rfl dX12_reckons_108 ?_
      refine r_sipush C (by decide) dX12_reckons_110 ?_
      refine r_icmp_ge C (tgt := 153) (by decide) dX12_reckons_113 (fun c7 => ?_) (fun c7 => ?_)
      · have hf := ite_t c7 hf
        refine r_iload C hl (kx := 0) rfl dX12_reckons_153 ?_
        refine r_sipush C (by decide) dX12_reckons_155 ?_
        refine r_icmp_ne C (tgt := 184) (by decide) dX12_reckons_158 (fun c8 => ?_) (fun c8 => ?_)
        · have hf := ite_f c8 hf
          refine r_iload C hl (kx := 0) rfl dX12_reckons_184 ?_
          refine r_sipush C (by decide) dX12_reckons_186 ?_
          refine r_icmp_ne C (tgt := 239) (by decide) dX12_reckons_189 (fun c9 => ?_) (fun c9 => ?_)
          · have hf := ite_f c9 hf
            refine r_iinc C hl (kx := 3) rfl (by decide) (L' := [(5, 0, (x5 + (-1))), (7, 0, v5), (0, 2, x0), (1, 0, x1), (6, 0, x6)]) rfl dX12_reckons_239 (fun ls hl => ?_)
            refine r_aload_n C hl (kx := 2) rfl rfl dX12_reckons_242 ?_
            refine gf_12_30 C hw t0 dX12_reckons_243 ?_
            refine r_iload C hl (kx := 0) rfl dX12_reckons_246 ?_
            refine r_iconst C dX12_reckons_248 ?_
            refine r_isub C dX12_reckons_249 ?_
            refine r_iload C hl (kx := 1) rfl dX12_reckons_250 ?_
            refine r_aload_n C hl (kx := 2) rfl rfl dX12_reckons_252 ?_
            refine gf_12_30 C hw t0 dX12_reckons_253 ?_
            refine r_iload C hl (kx := 0) rfl dX12_reckons_256 ?_
            refine r_iconst C dX12_reckons_258 ?_
            refine r_isub C dX12_reckons_259 ?_
            obtain ⟨g10, hf⟩ := gd_some hf
            refine r_iald C hw (n := 900) (ow_12_16 t0) (j := (nrm ((x5 + (-1)) - 1))) rfl g10 (by decide) dX12_reckons_260 ?_
            refine r_aload_n C hl (kx := 2) rfl rfl dX12_reckons_261 ?_
            refine gf_12_30 C hw t0 dX12_reckons_262 ?_
            refine r_iload C hl (kx := 0) rfl dX12_reckons_265 ?_
            obtain ⟨g11, hf⟩ := gd_some hf
            refine r_iald C hw (n := 900) (ow_12_16 t0) (j := (nrm (x5 + (-1)))) rfl g11 (by decide) dX12_reckons_267 ?_
            obtain ⟨r13, μ12, e14, hf⟩ := bn_some hf
            refine r_callSv C hw (K := [(0, v5), (0, (μ (x0 + 5) (nrm ((x5 + (-1)) - 1)))), (0, (μ (x0 + 5) (nrm (x5 + (-1)))))]) (c_X12_between l D b e14) mi_X12_between st_X12_between kl_12_215 rfl rfl (lvh_sz hl) (by decide) (Kr := [(0, ((x5 + (-1)) - 1)), (2, (x0 + 5))]) rfl (Nat.le_of_ble_eq_true rfl) dX12_reckons_268 (fun H locs hw => ?_)
            obtain ⟨g17, hf⟩ := gd_some hf
            obtain ⟨μ15, e16, hf⟩ := nm_some hf
            refine r_iast C hw (n := 900) (ow_12_16 t0) (j := (nrm ((x5 + (-1)) - 1))) rfl g17 (by decide) dX12_reckons_271 (fun H locs hw => ?_)
            rw [← e16] at hw
            exact w_X12_reckons_272 C _ ih hf t0 hw (lvh_sub hl [2, 3, 0, 4] rfl)
          · have hf := ite_t c9 hf
            refine r_iinc C hl (kx := 3) rfl (by decide) (L' := [(5, 0, (x5 + (-2))), (7, 0, v5), (0, 2, x0), (1, 0, x1), (6, 0, x6)]) rfl dX12_reckons_192 (fun ls hl => ?_)
            refine r_aload_n C hl (kx := 2) rfl rfl dX12_reckons_195 ?_
            refine gf_12_30 C hw t0 dX12_reckons_196 ?_
            refine r_iload C hl (kx := 0) rfl dX12_reckons_199 ?_
            refine r_iconst C dX12_reckons_201 ?_
            refine r_isub C dX12_reckons_202 ?_
            refine r_aload_n C hl (kx := 2) rfl rfl dX12_reckons_203 ?_
            refine gf_12_30 C hw t0 dX12_reckons_204 ?_
            refine r_iload C hl (kx := 0) rfl dX12_reckons_207 ?_
            refine r_iconst C dX12_reckons_209 ?_
            refine r_isub C dX12_reckons_210 ?_
            obtain ⟨g18, hf⟩ := gd_some hf
            refine r_iald C hw (n := 900) (ow_12_16 t0) (j := (nrm ((x5 + (-2)) - 1))) rfl g18 (by decide) dX12_reckons_211 ?_
            refine r_iconst C dX12_reckons_212 ?_
            refine r_icmp_ne C (tgt := 226) (by decide) dX12_reckons_213 (fun c19 => ?_) (fun c19 => ?_)
            · have hf := ite_f c19 hf
              refine r_aload_n C hl (kx := 2) rfl rfl dX12_reckons_226 ?_
              refine gf_12_30 C hw t0 dX12_reckons_227 ?_
              refine r_iload C hl (kx := 0) rfl dX12_reckons_230 ?_
              refine r_iconst C dX12_reckons_232 ?_
              refine r_iadd C dX12_reckons_233 ?_
              obtain ⟨g20, hf⟩ := gd_some hf
              refine r_iald C hw (n := 900) (ow_12_16 t0) (j := (nrm ((x5 + (-2)) + 1))) rfl g20 (by decide) dX12_reckons_234 ?_
              exact w_X12_reckons_235 C _ ih hf t0 hw (lvh_sub hl [2, 3, 0, 4] rfl)
            · have hf := ite_t c19 hf
              refine r_aload_n C hl (kx := 2) rfl rfl dX12_reckons_216 ?_
              refine gf_12_30 C hw t0 dX12_reckons_217 ?_
              refine r_iload C hl (kx := 0) rfl dX12_reckons_220 ?_
              obtain ⟨g21, hf⟩ := gd_some hf
              refine r_iald C hw (n := 900) (ow_12_16 t0) (j := (nrm (x5 + (-2)))) rfl g21 (by decide) dX12_reckons_222 ?_
              refine r_goto C (tgt := 235) (by decide) dX12_reckons_223 ?_
              exact w_X12_reckons_235 C _ ih hf t0 hw (lvh_sub hl [2, 3, 0, 4] rfl)
        · have hf := ite_t c8 hf
          refine r_aload_n C hl (kx := 1) rfl rfl dX12_reckons_161 ?_
          refine gf_12_30 C hw t0 dX12_reckons_162 ?_
          refine r_iload C hl (kx := 3) rfl dX12_reckons_165 ?_
          refine r_iconst C dX12_reckons_167 ?_
          refine r_isub C dX12_reckons_168 ?_
          refine r_iconst C dX12_reckons_169 ?_
          refine r_aload_n C hl (kx := 1) rfl rfl dX12_reckons_170 ?_
          refine gf_12_30 C hw t0 dX12_reckons_171 ?_
          refine r_iload C hl (kx := 3) rfl dX12_reckons_174 ?_
          refine r_iconst C dX12_reckons_176 ?_
          refine r_isub C dX12_reckons_177 ?_
          obtain ⟨g22, hf⟩ := gd_some hf
          refine r_iald C hw (n := 900) (ow_12_16 t0) (j := (nrm (x5 - 1))) rfl g22 (by decide) dX12_reckons_178 ?_
          refine r_isub C dX12_reckons_179 ?_
          obtain ⟨g25, hf⟩ := gd_some hf
          obtain ⟨μ23, e24, hf⟩ := nm_some hf
          refine r_iast C hw (n := 900) (ow_12_16 t0) (j := (nrm (x5 - 1))) rfl g25 (by decide) dX12_reckons_180 (fun H locs hw => ?_)
          rw [← e24] at hw
          refine r_goto C (tgt := 272) (by decide) dX12_reckons_181 ?_
          exact w_X12_reckons_272 C _ ih hf t0 hw (lvh_sub hl [1, 2, 3, 4] rfl)
      · have hf := ite_f c7 hf
        refine r_aload_n C hl (kx := 1) rfl rfl dX12_reckons_116 ?_
        refine gf_12_30 C hw t0 dX12_reckons_117 ?_
        refine r_iload C hl (kx := 3) rfl dX12_reckons_120 ?_
        refine r_iload C hl (kx := 0) rfl dX12_reckons_122 ?_
        refine r_sipush C (by decide) dX12_reckons_124 ?_
        refine r_icmp_ge C (tgt := 135) (by decide) dX12_reckons_127 (fun c26 => ?_) (fun c26 => ?_)
        · have hf := ite_t c26 hf
          refine r_aload_n C hl (kx := 1) rfl rfl dX12_reckons_135 ?_
          refine gf_12_33 C hw t0 dX12_reckons_136 ?_
          refine r_iload C hl (kx := 0) rfl dX12_reckons_139 ?_
          refine r_sipush C (by decide) dX12_reckons_141 ?_
          refine r_isub C dX12_reckons_144 ?_
          obtain ⟨g27, hf⟩ := gd_some hf
          refine r_iald C hw (n := 6) (ow_12_17 t0) (j := (nrm (v5 - 1000))) rfl g27 (by decide) dX12_reckons_145 ?_
          exact w_X12_reckons_146 C _ ih hf t0 hw (lvh_sub hl [1, 2, 3, 4] rfl)
        · have hf := ite_f c26 hf
          refine r_iload C hl (kx := 0) rfl dX12_reckons_130 ?_
          refine r_goto C (tgt := 146) (by decide) dX12_reckons_132 ?_
          exact w_X12_reckons_146 C _ ih hf t0 hw (lvh_sub hl [1, 2, 3, 4] rfl)
set_option maxHeartbeats 4000000 in
set_option maxRecDepth 20000 in
theorem w_X12_reckons_0 (C : Cx p s m args meth c D b cX12_reckons 8 RX12 (some .int)) {r : Int} {μ' : Mem} {x0 x1 x2 x3 x4 : Int} {μ : Mem} {H : Heap} {locs : List Loc} {ls : Array Slot} (hf : f_X12_reckons x0 x1 x2 x3 x4 μ = some (r, μ')) (t0 : isK x0 12) (hw : Hw D b μ s.heap H locs) (hl : lvh b ls 8 [(0, 2, x0), (1, 0, x1), (2, 0, x2), (3, 0, x3), (4, 0, x4)]) : W p l e (rm 1) s m args below meth c H locs 0 0 (QM below args s D b (some (.int (jI r))) μ') (F0 m 0 ls []) := by
  unfold f_X12_reckons at hf
  refine r_aload_n C hl (kx := 0) rfl rfl dX12_reckons_0 ?_
  refine gf_12_33 C hw t0 dX12_reckons_1 ?_
  refine r_iconst C dX12_reckons_4 ?_
  refine r_iload_n C hl (kx := 2) rfl rfl dX12_reckons_5 ?_
  obtain ⟨μ1, e2, hf⟩ := nm_some hf
  refine r_iast C hw (n := 6) (ow_12_17 t0) (j := 0) (by decide) (by decide) (by decide) dX12_reckons_6 (fun H locs hw => ?_)
  rw [← e2] at hw
  refine r_aload_n C hl (kx := 0) rfl rfl dX12_reckons_7 ?_
  refine gf_12_33 C hw t0 dX12_reckons_8 ?_
  refine r_iconst C dX12_reckons_11 ?_
  refine r_iload_n C hl (kx := 3) rfl rfl dX12_reckons_12 ?_
  obtain ⟨μ3, e4, hf⟩ := nm_some hf
  refine r_iast C hw (n := 6) (ow_12_17 t0) (j := 1) (by decide) (by decide) (by decide) dX12_reckons_13 (fun H locs hw => ?_)
  rw [← e4] at hw
  refine r_aload_n C hl (kx := 0) rfl rfl dX12_reckons_14 ?_
  refine gf_12_33 C hw t0 dX12_reckons_15 ?_
  refine r_iconst C dX12_reckons_18 ?_
  refine r_aload_n C hl (kx := 0) rfl rfl dX12_reckons_19 ?_
  refine gf_12_13 C hw t0 dX12_reckons_20 ?_
  refine r_bipush C (by decide) dX12_reckons_23 ?_
  refine r_iload_n C hl (kx := 2) rfl rfl dX12_reckons_25 ?_
  refine r_iadd C dX12_reckons_26 ?_
  obtain ⟨g5, hf⟩ := gd_some hf
  refine r_iald C hw (n := 3300) (ow_12_1 t0) (j := (nrm (29 + x2))) rfl g5 (by decide) dX12_reckons_27 ?_
  obtain ⟨μ6, e7, hf⟩ := nm_some hf
  refine r_iast C hw (n := 6) (ow_12_17 t0) (j := 2) (by decide) (by decide) (by decide) dX12_reckons_28 (fun H locs hw => ?_)
  rw [← e7] at hw
  refine r_aload_n C hl (kx := 0) rfl rfl dX12_reckons_29 ?_
  refine gf_12_33 C hw t0 dX12_reckons_30 ?_
  refine r_iconst C dX12_reckons_33 ?_
  refine r_aload_n C hl (kx := 0) rfl rfl dX12_reckons_34 ?_
  refine gf_12_13 C hw t0 dX12_reckons_35 ?_
  refine r_iconst C dX12_reckons_38 ?_
  refine r_iald C hw (n := 3300) (ow_12_1 t0) (j := 4) (by decide) (by decide) (by decide) dX12_reckons_39 ?_
  obtain ⟨μ8, e9, hf⟩ := nm_some hf
  refine r_iast C hw (n := 6) (ow_12_17 t0) (j := 3) (by decide) (by decide) (by decide) dX12_reckons_40 (fun H locs hw => ?_)
  rw [← e9] at hw
  refine r_aload_n C hl (kx := 0) rfl rfl dX12_reckons_41 ?_
  refine gf_12_33 C hw t0 dX12_reckons_42 ?_
  refine r_iconst C dX12_reckons_45 ?_
  refine r_iload C hl (kx := 4) rfl dX12_reckons_46 ?_
  obtain ⟨μ10, e11, hf⟩ := nm_some hf
  refine r_iast C hw (n := 6) (ow_12_17 t0) (j := 4) (by decide) (by decide) (by decide) dX12_reckons_48 (fun H locs hw => ?_)
  rw [← e11] at hw
  refine r_aload_n C hl (kx := 0) rfl rfl dX12_reckons_49 ?_
  refine gf_12_33 C hw t0 dX12_reckons_50 ?_
  refine r_iconst C dX12_reckons_53 ?_
  refine r_aload_n C hl (kx := 0) rfl rfl dX12_reckons_54 ?_
  refine gf_12_13 C hw t0 dX12_reckons_55 ?_
  refine r_bipush C (by decide) dX12_reckons_58 ?_
  refine r_iald C hw (n := 3300) (ow_12_1 t0) (j := 65) (by decide) (by decide) (by decide) dX12_reckons_60 ?_
  obtain ⟨r13, μ12, e14, hf⟩ := bn_some hf
  refine r_callSv C hw (K := [(0, (μ10 (x0 + 1) 65))]) (c_X12_bitsOf l D b e14) mi_X12_bitsOf st_X12_bitsOf kl_12_212 rfl rfl (lvh_sz hl) (by decide) (Kr := [(0, 5), (2, (x0 + 6))]) rfl (Nat.le_of_ble_eq_true rfl) dX12_reckons_61 (fun H locs hw => ?_)
  obtain ⟨μ15, e16, hf⟩ := nm_some hf
  refine r_iast C hw (n := 6) (ow_12_17 t0) (j := 5) (by decide) (by decide) (by decide) dX12_reckons_64 (fun H locs hw => ?_)
  rw [← e16] at hw
  refine r_iconst C dX12_reckons_65 ?_
  refine r_istore C hl (by decide) (L' := [(5, 0, 0), (0, 2, x0), (1, 0, x1), (2, 0, x2), (3, 0, x3), (4, 0, x4)]) rfl dX12_reckons_66 (fun ls hl => ?_)
  refine r_iconst C dX12_reckons_68 ?_
  refine r_istore C hl (by decide) (L' := [(6, 0, 0), (5, 0, 0), (0, 2, x0), (1, 0, x1), (2, 0, x2), (3, 0, x3), (4, 0, x4)]) rfl dX12_reckons_69 (fun ls hl => ?_)
  exact w_X12_reckons_71 C FU _ _ _ _ _ _ _ _ hf t0 hw (lvh_sub hl [2, 3, 1, 0] rfl)
theorem c_X12_reckons (l : Launch) (D : Ds) (b : Nat) {x0 x1 x2 x3 x4 : Int} {μ μ' : Mem} {r : Int} (t0 : isK x0 12) (hf : f_X12_reckons x0 x1 x2 x3 x4 μ = some (r, μ')) : Ctr l D b yX12_reckons cX12_reckons 8 (some .int) 1 [(2, x0), (0, x1), (0, x2), (0, x3), (0, x4)] μ (some (.int (jI r))) μ' := by
  refine Ctr.of (by decide +kernel) (Nat.le_of_ble_eq_true rfl) ?_
  intro p e s m below meth c C hw ls hl
  exact w_X12_reckons_0 C hf t0 hw hl
set_option maxHeartbeats 4000000 in
set_option maxRecDepth 20000 in
theorem w_X12_mayGo_0 (C : Cx p s m args meth c D b cX12_mayGo 3 RX12 (some .boolean)) {r : Int} {μ' : Mem} {x0 x1 x2 : Int} {μ : Mem} {H : Heap} {locs : List Loc} {ls : Array Slot} (hf : f_X12_mayGo x0 x1 x2 μ = some (r, μ')) (t0 : isK x0 12) (hw : Hw D b μ s.heap H locs) (hl : lvh b ls 3 [(0, 2, x0), (1, 0, x1), (2, 0, x2)]) : W p l e (rm 2) s m args below meth c H locs 0 0 (QM below args s D b (some (.int (jI r))) μ') (F0 m 0 ls []) := by
  unfold f_X12_mayGo at hf
  refine r_aload_n C hl (kx := 0) rfl rfl dX12_mayGo_0 ?_
  refine gf_12_13 C hw t0 dX12_mayGo_1 ?_
  refine r_bipush C (by decide) dX12_mayGo_4 ?_
  refine r_iald C hw (n := 3300) (ow_12_1 t0) (j := 6) (by decide) (by decide) (by decide) dX12_mayGo_6 ?_
  refine r_if_ne C (tgt := 28) (by decide) dX12_mayGo_7 (fun c1 => ?_) (fun c1 => ?_)
  · have hf := ite_f c1 hf
    refine r_aload_n C hl (kx := 0) rfl rfl dX12_mayGo_28 ?_
    refine r_iconst C dX12_mayGo_29 ?_
    refine r_iload_n C hl (kx := 1) rfl rfl dX12_mayGo_30 ?_
    refine r_iload_n C hl (kx := 2) rfl rfl dX12_mayGo_31 ?_
    refine r_aload_n C hl (kx := 0) rfl rfl dX12_mayGo_32 ?_
    refine gf_12_13 C hw t0 dX12_mayGo_33 ?_
    refine r_bipush C (by decide) dX12_mayGo_36 ?_
    refine r_iald C hw (n := 3300) (ow_12_1 t0) (j := 66) (by decide) (by decide) (by decide) dX12_mayGo_38 ?_
    obtain ⟨r3, μ2, e4, hf⟩ := bn_some hf
    refine r_callVv C hw (K := [(0, 1), (0, x1), (0, x2), (0, (μ (x0 + 1) 66))]) ok12 t0 (c_X12_reckons l D b t0 e4) mi_X12_reckons in_X12_reckons se_X12_reckons kl_12_218 rfl rfl (lvh_sz hl) (by decide) (Kr := []) rfl (Nat.le_of_ble_eq_true rfl) dX12_mayGo_39 (fun H locs hw => ?_)
    refine r_iconst C dX12_mayGo_42 ?_
    refine r_icmp_ne C (tgt := 50) (by decide) dX12_mayGo_43 (fun c5 => ?_) (fun c5 => ?_)
    · have hf := ite_f c5 hf
      refine r_iconst C dX12_mayGo_50 ?_
      exact r_zret C hw (by decide) hf dX12_mayGo_51
    · have hf := ite_t c5 hf
      refine r_iconst C dX12_mayGo_46 ?_
      refine r_goto C (tgt := 51) (by decide) dX12_mayGo_47 ?_
      exact r_zret C hw (by decide) hf dX12_mayGo_51
  · have hf := ite_t c1 hf
    refine r_iload_n C hl (kx := 2) rfl rfl dX12_mayGo_10 ?_
    refine r_aload_n C hl (kx := 0) rfl rfl dX12_mayGo_11 ?_
    refine gf_12_13 C hw t0 dX12_mayGo_12 ?_
    refine r_iconst C dX12_mayGo_15 ?_
    refine r_iald C hw (n := 3300) (ow_12_1 t0) (j := 4) (by decide) (by decide) (by decide) dX12_mayGo_16 ?_
    refine r_icmp_gt C (tgt := 24) (by decide) dX12_mayGo_17 (fun c6 => ?_) (fun c6 => ?_)
    · have hf := ite_t c6 hf
      refine r_iconst C dX12_mayGo_24 ?_
      refine r_goto C (tgt := 51) (by decide) dX12_mayGo_25 ?_
      exact r_zret C hw (by decide) hf dX12_mayGo_51
    · have hf := ite_f c6 hf
      refine r_iconst C dX12_mayGo_20 ?_
      refine r_goto C (tgt := 51) (by decide) dX12_mayGo_21 ?_
      exact r_zret C hw (by decide) hf dX12_mayGo_51
theorem c_X12_mayGo (l : Launch) (D : Ds) (b : Nat) {x0 x1 x2 : Int} {μ μ' : Mem} {r : Int} (t0 : isK x0 12) (hf : f_X12_mayGo x0 x1 x2 μ = some (r, μ')) : Ctr l D b yX12_mayGo cX12_mayGo 3 (some .boolean) 2 [(2, x0), (0, x1), (0, x2)] μ (some (.int (jI r))) μ' := by
  refine Ctr.of (by decide +kernel) (Nat.le_of_ble_eq_true rfl) ?_
  intro p e s m below meth c C hw ls hl
  exact w_X12_mayGo_0 C hf t0 hw hl
set_option maxHeartbeats 4000000 in
set_option maxRecDepth 20000 in
theorem w_X12_isOpen_0 (C : Cx p s m args meth c D b cX12_isOpen 2 RX12 (some .boolean)) {r : Int} {μ' : Mem} {x0 x1 : Int} {μ : Mem} {H : Heap} {locs : List Loc} {ls : Array Slot} (hf : f_X12_isOpen x0 x1 μ = some (r, μ')) (t0 : isK x0 12) (hw : Hw D b μ s.heap H locs) (hl : lvh b ls 2 [(0, 2, x0), (1, 0, x1)]) : W p l e (rm 3) s m args below meth c H locs 0 0 (QM below args s D b (some (.int (jI r))) μ') (F0 m 0 ls []) := by
  unfold f_X12_isOpen at hf
  refine r_aload_n C hl (kx := 0) rfl rfl dX12_isOpen_0 ?_
  refine r_iload_n C hl (kx := 1) rfl rfl dX12_isOpen_1 ?_
  refine r_aload_n C hl (kx := 0) rfl rfl dX12_isOpen_2 ?_
  refine gf_12_13 C hw t0 dX12_isOpen_3 ?_
  refine r_bipush C (by decide) dX12_isOpen_6 ?_
  refine r_iload_n C hl (kx := 1) rfl rfl dX12_isOpen_8 ?_
  refine r_iadd C dX12_isOpen_9 ?_
  obtain ⟨g1, hf⟩ := gd_some hf
  refine r_iald C hw (n := 3300) (ow_12_1 t0) (j := (nrm (56 + x1))) rfl g1 (by decide) dX12_isOpen_10 ?_
  obtain ⟨r3, μ2, e4, hf⟩ := bn_some hf
  refine r_callVv C hw (K := [(0, x1), (0, (μ (x0 + 1) (nrm (56 + x1))))]) ok12 t0 (c_X12_mayGo l D b t0 e4) mi_X12_mayGo in_X12_mayGo se_X12_mayGo kl_12_222 rfl rfl (lvh_sz hl) (by decide) (Kr := []) rfl (Nat.le_of_ble_eq_true rfl) dX12_isOpen_11 (fun H locs hw => ?_)
  obtain ⟨g5, hf⟩ := gd_some hf
  exact r_zret C hw g5 hf dX12_isOpen_14
theorem c_X12_isOpen (l : Launch) (D : Ds) (b : Nat) {x0 x1 : Int} {μ μ' : Mem} {r : Int} (t0 : isK x0 12) (hf : f_X12_isOpen x0 x1 μ = some (r, μ')) : Ctr l D b yX12_isOpen cX12_isOpen 2 (some .boolean) 3 [(2, x0), (0, x1)] μ (some (.int (jI r))) μ' := by
  refine Ctr.of (by decide +kernel) (Nat.le_of_ble_eq_true rfl) ?_
  intro p e s m below meth c C hw ls hl
  exact w_X12_isOpen_0 C hf t0 hw hl
set_option maxHeartbeats 4000000 in
set_option maxRecDepth 20000 in
theorem w_X12_wornTo_43 (C : Cx p s m args meth c D b cX12_wornTo 5 RX12 (some .int)) {r : Int} {μ' : Mem} {s0 : Int} {μ : Mem} {H : Heap} {locs : List Loc} {ls : Array Slot} (hf : f_X12_wornTo_j43 s0 μ = some (r, μ')) (hw : Hw D b μ s.heap H locs) (hl : lvh b ls 5 []) : W p l e (rm 2) s m args below meth c H locs 0 0 (QM below args s D b (some (.int (jI r))) μ') (F0 m 43 ls [.int (jI s0)]) := by
  unfold f_X12_wornTo_j43 at hf
  refine r_istore C hl (by decide) (L' := [(4, 0, s0)]) rfl dX12_wornTo_43 (fun ls hl => ?_)
  refine r_iload C hl (kx := 0) rfl dX12_wornTo_45 ?_
  refine r_if_ge C (tgt := 54) (by decide) dX12_wornTo_47 (fun c1 => ?_) (fun c1 => ?_)
  · have hf := ite_t c1 hf
    refine r_iload C hl (kx := 0) rfl dX12_wornTo_54 ?_
    refine r_bipush C (by decide) dX12_wornTo_56 ?_
    refine r_icmp_le C (tgt := 66) (by decide) dX12_wornTo_58 (fun c2 => ?_) (fun c2 => ?_)
    · have hf := ite_t c2 hf
      refine r_iload C hl (kx := 0) rfl dX12_wornTo_66 ?_
      exact r_iret C hw hf dX12_wornTo_68
    · have hf := ite_f c2 hf
      refine r_bipush C (by decide) dX12_wornTo_61 ?_
      refine r_goto C (tgt := 68) (by decide) dX12_wornTo_63 ?_
      exact r_iret C hw hf dX12_wornTo_68
  · have hf := ite_f c1 hf
    refine r_iconst C dX12_wornTo_50 ?_
    refine r_goto C (tgt := 68) (by decide) dX12_wornTo_51 ?_
    exact r_iret C hw hf dX12_wornTo_68
set_option maxHeartbeats 4000000 in
set_option maxRecDepth 20000 in
theorem w_X12_wornTo_0 (C : Cx p s m args meth c D b cX12_wornTo 5 RX12 (some .int)) {r : Int} {μ' : Mem} {x0 x1 x2 x3 : Int} {μ : Mem} {H : Heap} {locs : List Loc} {ls : Array Slot} (hf : f_X12_wornTo x0 x1 x2 x3 μ = some (r, μ')) (t0 : isK x0 12) (hw : Hw D b μ s.heap H locs) (hl : lvh b ls 5 [(0, 2, x0), (1, 0, x1), (2, 0, x2), (3, 0, x3)]) : W p l e (rm 2) s m args below meth c H locs 0 0 (QM below args s D b (some (.int (jI r))) μ') (F0 m 0 ls []) := by
  unfold f_X12_wornTo at hf
  refine r_aload_n C hl (kx := 0) rfl rfl dX12_wornTo_0 ?_
  refine gf_12_13 C hw t0 dX12_wornTo_1 ?_
  refine r_iconst C dX12_wornTo_4 ?_
  refine r_iald C hw (n := 3300) (ow_12_1 t0) (j := 5) (by decide) (by decide) (by decide) dX12_wornTo_5 ?_
  refine r_iconst C dX12_wornTo_6 ?_
  refine r_icmp_ne C (tgt := 21) (by decide) dX12_wornTo_7 (fun c1 => ?_) (fun c1 => ?_)
  · have hf := ite_f c1 hf
    refine r_aload_n C hl (kx := 0) rfl rfl dX12_wornTo_21 ?_
    refine gf_12_13 C hw t0 dX12_wornTo_22 ?_
    refine r_bipush C (by decide) dX12_wornTo_25 ?_
    refine r_iload_n C hl (kx := 1) rfl rfl dX12_wornTo_27 ?_
    refine r_iadd C dX12_wornTo_28 ?_
    obtain ⟨g2, hf⟩ := gd_some hf
    refine r_iald C hw (n := 3300) (ow_12_1 t0) (j := (nrm (29 + x1))) rfl g2 (by decide) dX12_wornTo_29 ?_
    refine r_iload_n C hl (kx := 3) rfl rfl dX12_wornTo_30 ?_
    refine r_iadd C dX12_wornTo_31 ?_
    refine r_iconst C dX12_wornTo_32 ?_
    refine r_icmp_le C (tgt := 42) (by decide) dX12_wornTo_33 (fun c3 => ?_) (fun c3 => ?_)
    · have hf := ite_t c3 hf
      refine r_iload_n C hl (kx := 2) rfl rfl dX12_wornTo_42 ?_
      exact w_X12_wornTo_43 C hf hw (lvh_sub hl [] rfl)
    · have hf := ite_f c3 hf
      refine r_iload_n C hl (kx := 2) rfl rfl dX12_wornTo_36 ?_
      refine r_iconst C dX12_wornTo_37 ?_
      refine r_iadd C dX12_wornTo_38 ?_
      refine r_goto C (tgt := 43) (by decide) dX12_wornTo_39 ?_
      exact w_X12_wornTo_43 C hf hw (lvh_sub hl [] rfl)
  · have hf := ite_t c1 hf
    refine r_aload_n C hl (kx := 0) rfl rfl dX12_wornTo_10 ?_
    refine r_iconst C dX12_wornTo_11 ?_
    refine r_iload_n C hl (kx := 1) rfl rfl dX12_wornTo_12 ?_
    refine r_iload_n C hl (kx := 2) rfl rfl dX12_wornTo_13 ?_
    refine r_iload_n C hl (kx := 3) rfl rfl dX12_wornTo_14 ?_
    obtain ⟨r5, μ4, e6, hf⟩ := bn_some hf
    refine r_callVv C hw (K := [(0, 0), (0, x1), (0, x2), (0, x3)]) ok12 t0 (c_X12_reckons l D b t0 e6) mi_X12_reckons in_X12_reckons se_X12_reckons kl_12_218 rfl rfl (lvh_sz hl) (by decide) (Kr := []) rfl (Nat.le_of_ble_eq_true rfl) dX12_wornTo_15 (fun H locs hw => ?_)
    refine r_goto C (tgt := 43) (by decide) dX12_wornTo_18 ?_
    exact w_X12_wornTo_43 C hf hw (lvh_sub hl [] rfl)
theorem c_X12_wornTo (l : Launch) (D : Ds) (b : Nat) {x0 x1 x2 x3 : Int} {μ μ' : Mem} {r : Int} (t0 : isK x0 12) (hf : f_X12_wornTo x0 x1 x2 x3 μ = some (r, μ')) : Ctr l D b yX12_wornTo cX12_wornTo 5 (some .int) 2 [(2, x0), (0, x1), (0, x2), (0, x3)] μ (some (.int (jI r))) μ' := by
  refine Ctr.of (by decide +kernel) (Nat.le_of_ble_eq_true rfl) ?_
  intro p e s m below meth c C hw ls hl
  exact w_X12_wornTo_0 C hf t0 hw hl
set_option maxHeartbeats 4000000 in
set_option maxRecDepth 20000 in
theorem w_X12_fillingsOf_2 (C : Cx p s m args meth c D b cX12_fillingsOf 3 RX12 (some .int)) {r : Int} {μ' : Mem} : ∀ (n : Nat) (x0 x1 x2 : Int) (μ : Mem) (H : Heap) (locs : List Loc) (ls : Array Slot), f_X12_fillingsOf_w2 n x0 x1 x2 μ = some (r, μ') → isK x0 12 → Hw D b μ s.heap H locs → lvh b ls 3 [(0, 2, x0), (1, 0, x1), (2, 0, x2)] → W p l e (rm 3) s m args below meth c H locs 0 0 (QM below args s D b (some (.int (jI r))) μ') (F0 m 2 ls []) := by
  intro n
  induction n with
  | zero => intro x0 x1 x2 μ H locs ls hf; cases hf
  | succ n ih =>
    intro x0 x1 x2 μ H locs ls hf t0 hw hl
    rw [f_X12_fillingsOf_w2.eq_2] at hf
    refine r_iload_n C hl (kx := 2) rfl rfl dX12_fillingsOf_2 ?_
    refine r_aload_n C hl (kx := 0) rfl rfl dX12_fillingsOf_3 ?_
    refine gf_12_13 C hw t0 dX12_fillingsOf_4 ?_
    refine r_bipush C (by decide) dX12_fillingsOf_7 ?_
    refine r_iload_n C hl (kx := 1) rfl rfl dX12_fillingsOf_9 ?_
    refine r_iadd C dX12_fillingsOf_10 ?_
    obtain ⟨g1, hf⟩ := gd_some hf
    refine r_iald C hw (n := 3300) (ow_12_1 t0) (j := (nrm (56 + x1))) rfl g1 (by decide) dX12_fillingsOf_11 ?_
    refine r_icmp_gt C (tgt := 42) (by decide) dX12_fillingsOf_12 (fun c2 => ?_) (fun c2 => ?_)
    · have hf := ite_t c2 hf
      refine r_iconst C dX12_fillingsOf_42 ?_
      exact r_iret C hw hf dX12_fillingsOf_43
    · have hf := ite_f c2 hf
      refine r_aload_n C hl (kx := 0) rfl rfl dX12_fillingsOf_15 ?_
      refine r_iload_n C hl (kx := 1) rfl rfl dX12_fillingsOf_16 ?_
      refine r_aload_n C hl (kx := 0) rfl rfl dX12_fillingsOf_17 ?_
      refine gf_12_13 C hw t0 dX12_fillingsOf_18 ?_
      refine r_bipush C (by decide) dX12_fillingsOf_21 ?_
      refine r_iload_n C hl (kx := 1) rfl rfl dX12_fillingsOf_23 ?_
      refine r_iadd C dX12_fillingsOf_24 ?_
      obtain ⟨g3, hf⟩ := gd_some hf
      refine r_iald C hw (n := 3300) (ow_12_1 t0) (j := (nrm (56 + x1))) rfl g3 (by decide) dX12_fillingsOf_25 ?_
      refine r_iload_n C hl (kx := 2) rfl rfl dX12_fillingsOf_26 ?_
      refine r_isub C dX12_fillingsOf_27 ?_
      obtain ⟨r5, μ4, e6, hf⟩ := bn_some hf
      refine r_callVv C hw (K := [(0, x1), (0, ((μ (x0 + 1) (nrm (56 + x1))) - x2))]) ok12 t0 (c_X12_mayGo l D b t0 e6) mi_X12_mayGo in_X12_mayGo se_X12_mayGo kl_12_222 rfl rfl (lvh_sz hl) (by decide) (Kr := []) rfl (Nat.le_of_ble_eq_true rfl) dX12_fillingsOf_28 (fun H locs hw => ?_)
      refine r_if_eq C (tgt := 36) (by decide) dX12_fillingsOf_31 (fun c7 => ?_) (fun c7 => ?_)
      · have hf := ite_t c7 hf
        refine r_iinc C hl (kx := 2) rfl (by decide) (L' := [(2, 0, (x2 + 1)), (0, 2, x0), (1, 0, x1)]) rfl dX12_fillingsOf_36 (fun ls hl => ?_)
        refine r_goto C (tgt := 2) (by decide) dX12_fillingsOf_39 ?_
        exact ih _ _ _ _ _ _ _ hf t0 hw (lvh_sub hl [1, 2, 0] rfl)
      · have hf := ite_f c7 hf
        refine r_iload_n C hl (kx := 2) rfl rfl dX12_fillingsOf_34 ?_
        exact r_iret C hw hf dX12_fillingsOf_35
set_option maxHeartbeats 4000000 in
set_option maxRecDepth 20000 in
theorem w_X12_fillingsOf_0 (C : Cx p s m args meth c D b cX12_fillingsOf 3 RX12 (some .int)) {r : Int} {μ' : Mem} {x0 x1 : Int} {μ : Mem} {H : Heap} {locs : List Loc} {ls : Array Slot} (hf : f_X12_fillingsOf x0 x1 μ = some (r, μ')) (t0 : isK x0 12) (hw : Hw D b μ s.heap H locs) (hl : lvh b ls 3 [(0, 2, x0), (1, 0, x1)]) : W p l e (rm 3) s m args below meth c H locs 0 0 (QM below args s D b (some (.int (jI r))) μ') (F0 m 0 ls []) := by
  unfold f_X12_fillingsOf at hf
  refine r_iconst C dX12_fillingsOf_0 ?_
  refine r_istore_n C hl (by decide) (L' := [(2, 0, 0), (0, 2, x0), (1, 0, x1)]) rfl rfl dX12_fillingsOf_1 (fun ls hl => ?_)
  exact w_X12_fillingsOf_2 C FU _ _ _ _ _ _ _ hf t0 hw (lvh_sub hl [1, 2, 0] rfl)
theorem c_X12_fillingsOf (l : Launch) (D : Ds) (b : Nat) {x0 x1 : Int} {μ μ' : Mem} {r : Int} (t0 : isK x0 12) (hf : f_X12_fillingsOf x0 x1 μ = some (r, μ')) : Ctr l D b yX12_fillingsOf cX12_fillingsOf 3 (some .int) 3 [(2, x0), (0, x1)] μ (some (.int (jI r))) μ' := by
  refine Ctr.of (by decide +kernel) (Nat.le_of_ble_eq_true rfl) ?_
  intro p e s m below meth c C hw ls hl
  exact w_X12_fillingsOf_0 C hf t0 hw hl
end WALK
