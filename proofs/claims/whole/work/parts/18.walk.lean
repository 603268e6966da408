section WALK
variable {p : Program} {l : Launch} {e : Env} {s : State} {m : MethodId} {args : Array Value} {below : List Frame} {meth : Method} {c : Code} {H : Heap} {locs : List Loc} {D : Ds} {b : Nat} {n0 : Nat}
set_option maxHeartbeats 4000000 in
set_option maxRecDepth 20000 in
theorem w_X12_nearer_0 (C : Cx p s m args meth c D b cX12_nearer 3 RX12 (some .boolean)) {r : Int} {μ' : Mem} {x0 x1 x2 : Int} {μ : Mem} {H : Heap} {locs : List Loc} {ls : Array Slot} (hf : f_X12_nearer x0 x1 x2 μ = some (r, μ')) (t0 : isK x0 12) (hw : Hw D b μ s.heap H locs) (hl : lvh b ls 3 [(0, 2, x0), (1, 0, x1), (2, 0, x2)]) : W p l e (rm 0) s m args below meth c H locs 0 0 (QM below args s D b (some (.int (jI r))) μ') (F0 m 0 ls []) := by
  unfold f_X12_nearer at hf
  refine r_aload_n C hl (kx := 0) rfl rfl dX12_nearer_0 ?_
  refine gf_12_39 C hw t0 dX12_nearer_1 ?_
  refine r_iload_n C hl (kx := 1) rfl rfl dX12_nearer_4 ?_
  obtain ⟨g1, hf⟩ := gd_some hf
  refine r_iald C hw (n := 7) (ow_12_21 t0) (j := (nrm x1)) rfl g1 (by decide) dX12_nearer_5 ?_
  refine r_ldcw C (z := 268435456) (by decide) kw1757 dX12_nearer_6 ?_
  refine r_icmp_eq C (tgt := 29) (by decide) dX12_nearer_9 (fun c2 => ?_) (fun c2 => ?_)
  · have hf := ite_t c2 hf
    refine r_iconst C dX12_nearer_29 ?_
    exact r_zret C hw (by decide) hf dX12_nearer_30
  · have hf := ite_f c2 hf
    refine r_aload_n C hl (kx := 0) rfl rfl dX12_nearer_12 ?_
    refine gf_12_39 C hw t0 dX12_nearer_13 ?_
    refine r_iload_n C hl (kx := 2) rfl rfl dX12_nearer_16 ?_
    obtain ⟨g3, hf⟩ := gd_some hf
    refine r_iald C hw (n := 7) (ow_12_21 t0) (j := (nrm x2)) rfl g3 (by decide) dX12_nearer_17 ?_
    refine r_aload_n C hl (kx := 0) rfl rfl dX12_nearer_18 ?_
    refine gf_12_39 C hw t0 dX12_nearer_19 ?_
    refine r_iload_n C hl (kx := 1) rfl rfl dX12_nearer_22 ?_
    obtain ⟨g4, hf⟩ := gd_some hf
    refine r_iald C hw (n := 7) (ow_12_21 t0) (j := (nrm x1)) rfl g4 (by decide) dX12_nearer_23 ?_
    refine r_iconst C dX12_nearer_24 ?_
    refine r_iadd C dX12_nearer_25 ?_
    refine r_icmp_gt C (tgt := 31) (by decide) dX12_nearer_26 (fun c5 => ?_) (fun c5 => ?_)
    · have hf := ite_t c5 hf
      refine r_aload_n C hl (kx := 0) rfl rfl dX12_nearer_31 ?_
      refine gf_12_39 C hw t0 dX12_nearer_32 ?_
      refine r_iload_n C hl (kx := 2) rfl rfl dX12_nearer_35 ?_
      refine r_aload_n C hl (kx := 0) rfl rfl dX12_nearer_36 ?_
      refine gf_12_39 C hw t0 dX12_nearer_37 ?_
      refine r_iload_n C hl (kx := 1) rfl rfl dX12_nearer_40 ?_
      obtain ⟨g6, hf⟩ := gd_some hf
      refine r_iald C hw (n := 7) (ow_12_21 t0) (j := (nrm x1)) rfl g6 (by decide) dX12_nearer_41 ?_
      refine r_iconst C dX12_nearer_42 ?_
      refine r_iadd C dX12_nearer_43 ?_
      obtain ⟨g9, hf⟩ := gd_some hf
      obtain ⟨μ7, e8, hf⟩ := nm_some hf
      refine r_iast C hw (n := 7) (ow_12_21 t0) (j := (nrm x2)) rfl g9 (by decide) dX12_nearer_44 (fun H locs hw => ?_)
      rw [← e8] at hw
      refine r_iconst C dX12_nearer_45 ?_
      exact r_zret C hw (by decide) hf dX12_nearer_46
    · have hf := ite_f c5 hf
      refine r_iconst C dX12_nearer_29 ?_
      exact r_zret C hw (by decide) hf dX12_nearer_30
theorem c_X12_nearer (l : Launch) (D : Ds) (b : Nat) {x0 x1 x2 : Int} {μ μ' : Mem} {r : Int} (t0 : isK x0 12) (hf : f_X12_nearer x0 x1 x2 μ = some (r, μ')) : Ctr l D b yX12_nearer cX12_nearer 3 (some .boolean) 0 [(2, x0), (0, x1), (0, x2)] μ (some (.int (jI r))) μ' := by
  refine Ctr.of (by decide +kernel) (Nat.le_of_ble_eq_true rfl) ?_
  intro p e s m below meth c C hw ls hl
  exact w_X12_nearer_0 C hf t0 hw hl
set_option maxHeartbeats 4000000 in
set_option maxRecDepth 20000 in
theorem w_X12_laysFar_126 (C : Cx p s m args meth c D b cX12_laysFar 4 RX12 (none)) {r : Int} {μ' : Mem} (k40 : Int → Int → Int → Mem → Option (Int × Mem)) (h40 : ∀ (x0 x1 x2 : Int) (μ : Mem) (H : Heap) (locs : List Loc) (ls : Array Slot), k40 x0 x1 x2 μ = some (r, μ') → isK x0 12 → Hw D b μ s.heap H locs → lvh b ls 4 [(0, 2, x0), (1, 0, x1), (2, 0, x2)] → W p l e (rm 4) s m args below meth c H locs 0 0 (QM below args s D b none μ') (F0 m 40 ls [])) (k48 : Int → Int → Int → Int → Mem → Option (Int × Mem)) (h48 : ∀ (x0 x1 x2 x3 : Int) (μ : Mem) (H : Heap) (locs : List Loc) (ls : Array Slot), k48 x0 x1 x2 x3 μ = some (r, μ') → isK x0 12 → Hw D b μ s.heap H locs → lvh b ls 4 [(0, 2, x0), (1, 0, x1), (2, 0, x2), (3, 0, x3)] → W p l e (rm 4) s m args below meth c H locs 0 0 (QM below args s D b none μ') (F0 m 48 ls [])) {x0 x1 x2 x3 : Int} {μ : Mem} {H : Heap} {locs : List Loc} {ls : Array Slot} (hf : f_X12_laysFar_j126 k40 k48 x0 x1 x2 x3 μ = some (r, μ')) (t0 : isK x0 12) (hw : Hw D b μ s.heap H locs) (hl : lvh b ls 4 [(0, 2, x0), (1, 0, x1), (2, 0, x2), (3, 0, x3)]) : W p l e (rm 4) s m args below meth c H locs 0 0 (QM below args s D b none μ') (F0 m 126 ls []) := by
  unfold f_X12_laysFar_j126 at hf
  refine r_iinc C hl (kx := 3) rfl (by decide) (L' := [(3, 0, (x3 + 1)), (0, 2, x0), (1, 0, x1), (2, 0, x2)]) rfl dX12_laysFar_126 (fun ls hl => ?_)
  refine r_goto C (tgt := 48) (by decide) dX12_laysFar_129 ?_
  exact h48 _ _ _ _ _ _ _ _ hf t0 hw (lvh_sub hl [1, 2, 3, 0] rfl)
set_option maxHeartbeats 4000000 in
set_option maxRecDepth 20000 in
theorem w_X12_laysFar_48 (C : Cx p s m args meth c D b cX12_laysFar 4 RX12 (none)) {r : Int} {μ' : Mem} (k40 : Int → Int → Int → Mem → Option (Int × Mem)) (h40 : ∀ (x0 x1 x2 : Int) (μ : Mem) (H : Heap) (locs : List Loc) (ls : Array Slot), k40 x0 x1 x2 μ = some (r, μ') → isK x0 12 → Hw D b μ s.heap H locs → lvh b ls 4 [(0, 2, x0), (1, 0, x1), (2, 0, x2)] → W p l e (rm 4) s m args below meth c H locs 0 0 (QM below args s D b none μ') (F0 m 40 ls [])) : ∀ (n : Nat) (x0 x1 x2 x3 : Int) (μ : Mem) (H : Heap) (locs : List Loc) (ls : Array Slot), f_X12_laysFar_w48 k40 n x0 x1 x2 x3 μ = some (r, μ') → isK x0 12 → Hw D b μ s.heap H locs → lvh b ls 4 [(0, 2, x0), (1, 0, x1), (2, 0, x2), (3, 0, x3)] → W p l e (rm 4) s m args below meth c H locs 0 0 (QM below args s D b none μ') (F0 m 48 ls []) := by
  intro n
  induction n with
  | zero => intro x0 x1 x2 x3 μ H locs ls hf; cases hf
  | succ n ih =>
    intro x0 x1 x2 x3 μ H locs ls hf t0 hw hl
    rw [f_X12_laysFar_w48.eq_2] at hf
    refine r_iload_n C hl (kx := 3) rfl rfl dX12_laysFar_48 ?_
    refine r_aload_n C hl (kx := 0) rfl rfl dX12_laysFar_49 ?_
    refine gf_12_13 C hw t0 dX12_laysFar_50 ?_
    refine r_iconst C dX12_laysFar_53 ?_
    refine r_iald C hw (n := 3300) (ow_12_1 t0) (j := 2) (by decide) (by decide) (by decide) dX12_laysFar_54 ?_
    refine r_icmp_ge C (tgt := 132) (by decide) dX12_laysFar_55 (fun c1 => ?_) (fun c1 => ?_)
    · have hf := ite_t c1 hf
      refine r_goto C (tgt := 40) (by decide) dX12_laysFar_132 ?_
      exact h40 _ _ _ _ _ _ _ hf t0 hw (lvh_sub hl [0, 1, 2] rfl)
    · have hf := ite_f c1 hf
      refine r_iload_n C hl (kx := 1) rfl rfl dX12_laysFar_58 ?_
      refine r_i2l C dX12_laysFar_59 ?_
      refine r_iload_n C hl (kx := 3) rfl rfl dX12_laysFar_60 ?_
      obtain ⟨r3, μ2, e4, hf⟩ := bn_some hf
      refine r_callSv C hw (K := [(1, (nrm x1)), (0, x3)]) (c_X12_isIn l D b e4) mi_X12_isIn st_X12_isIn kl_12_322 rfl rfl (lvh_sz hl) (by decide) (Kr := []) rfl (Nat.le_of_ble_eq_true rfl) dX12_laysFar_61 (fun H locs hw => ?_)
      refine r_if_eq C (tgt := 126) (by decide) dX12_laysFar_64 (fun c5 => ?_) (fun c5 => ?_)
      · have hf := ite_t c5 hf
        exact w_X12_laysFar_126 C _ h40 _ ih hf t0 hw (lvh_sub hl [0, 1, 2, 3] rfl)
      · have hf := ite_f c5 hf
        refine r_aload_n C hl (kx := 0) rfl rfl dX12_laysFar_67 ?_
        refine r_iload_n C hl (kx := 3) rfl rfl dX12_laysFar_68 ?_
        obtain ⟨r7, μ6, e8, hf⟩ := bn_some hf
        refine r_callVv C hw (K := [(0, x3)]) ok12 t0 (c_X12_isOpen l D b t0 e8) mi_X12_isOpen in_X12_isOpen se_X12_isOpen kl_12_233 rfl rfl (lvh_sz hl) (by decide) (Kr := []) rfl (Nat.le_of_ble_eq_true rfl) dX12_laysFar_69 (fun H locs hw => ?_)
        refine r_if_ne C (tgt := 78) (by decide) dX12_laysFar_72 (fun c9 => ?_) (fun c9 => ?_)
        · have hf := ite_f c9 hf
          refine r_iload_n C hl (kx := 2) rfl rfl dX12_laysFar_78 ?_
          refine r_aload_n C hl (kx := 0) rfl rfl dX12_laysFar_79 ?_
          refine r_aload_n C hl (kx := 0) rfl rfl dX12_laysFar_80 ?_
          refine gf_12_13 C hw t0 dX12_laysFar_81 ?_
          refine r_bipush C (by decide) dX12_laysFar_84 ?_
          refine r_iload_n C hl (kx := 3) rfl rfl dX12_laysFar_86 ?_
          refine r_iadd C dX12_laysFar_87 ?_
          obtain ⟨g10, hf⟩ := gd_some hf
          refine r_iald C hw (n := 3300) (ow_12_1 t0) (j := (nrm (11 + x3))) rfl g10 (by decide) dX12_laysFar_88 ?_
          refine r_aload_n C hl (kx := 0) rfl rfl dX12_laysFar_89 ?_
          refine gf_12_13 C hw t0 dX12_laysFar_90 ?_
          refine r_bipush C (by decide) dX12_laysFar_93 ?_
          refine r_iload_n C hl (kx := 3) rfl rfl dX12_laysFar_95 ?_
          refine r_iadd C dX12_laysFar_96 ?_
          obtain ⟨g11, hf⟩ := gd_some hf
          refine r_iald C hw (n := 3300) (ow_12_1 t0) (j := (nrm (20 + x3))) rfl g11 (by decide) dX12_laysFar_97 ?_
          obtain ⟨r13, μ12, e14, hf⟩ := bn_some hf
          refine r_callVv C hw (K := [(0, (μ6 (x0 + 1) (nrm (11 + x3)))), (0, (μ6 (x0 + 1) (nrm (20 + x3))))]) ok12 t0 (c_X12_nearer l D b t0 e14) mi_X12_nearer in_X12_nearer se_X12_nearer kl_12_326 rfl rfl (lvh_sz hl) (by decide) (Kr := [(0, x2)]) rfl (Nat.le_of_ble_eq_true rfl) dX12_laysFar_98 (fun H locs hw => ?_)
          refine r_aload_n C hl (kx := 0) rfl rfl dX12_laysFar_101 ?_
          refine r_aload_n C hl (kx := 0) rfl rfl dX12_laysFar_102 ?_
          refine gf_12_13 C hw t0 dX12_laysFar_103 ?_
          refine r_bipush C (by decide) dX12_laysFar_106 ?_
          refine r_iload_n C hl (kx := 3) rfl rfl dX12_laysFar_108 ?_
          refine r_iadd C dX12_laysFar_109 ?_
          obtain ⟨g15, hf⟩ := gd_some hf
          refine r_iald C hw (n := 3300) (ow_12_1 t0) (j := (nrm (20 + x3))) rfl g15 (by decide) dX12_laysFar_110 ?_
          refine r_aload_n C hl (kx := 0) rfl rfl dX12_laysFar_111 ?_
          refine gf_12_13 C hw t0 dX12_laysFar_112 ?_
          refine r_bipush C (by decide) dX12_laysFar_115 ?_
          refine r_iload_n C hl (kx := 3) rfl rfl dX12_laysFar_117 ?_
          refine r_iadd C dX12_laysFar_118 ?_
          obtain ⟨g16, hf⟩ := gd_some hf
          refine r_iald C hw (n := 3300) (ow_12_1 t0) (j := (nrm (11 + x3))) rfl g16 (by decide) dX12_laysFar_119 ?_
          obtain ⟨r18, μ17, e19, hf⟩ := bn_some hf
          refine r_callVv C hw (K := [(0, (μ12 (x0 + 1) (nrm (20 + x3)))), (0, (μ12 (x0 + 1) (nrm (11 + x3))))]) ok12 t0 (c_X12_nearer l D b t0 e19) mi_X12_nearer in_X12_nearer se_X12_nearer kl_12_326 rfl rfl (lvh_sz hl) (by decide) (Kr := [(0, r13), (0, x2)]) rfl (Nat.le_of_ble_eq_true rfl) dX12_laysFar_120 (fun H locs hw => ?_)
          refine r_ior C dX12_laysFar_123 ?_
          refine r_ior C dX12_laysFar_124 ?_
          obtain ⟨v20, e21, hf⟩ := nm_some hf
          refine top_i e21 ?_
          refine r_istore_n C hl (by decide) (L' := [(2, 0, v20), (0, 2, x0), (1, 0, x1), (3, 0, x3)]) rfl rfl dX12_laysFar_125 (fun ls hl => ?_)
          exact w_X12_laysFar_126 C _ h40 _ ih hf t0 hw (lvh_sub hl [1, 2, 0, 3] rfl)
        · have hf := ite_t c9 hf
          refine r_goto C (tgt := 126) (by decide) dX12_laysFar_75 ?_
          exact w_X12_laysFar_126 C _ h40 _ ih hf t0 hw (lvh_sub hl [0, 1, 2, 3] rfl)
set_option maxHeartbeats 4000000 in
set_option maxRecDepth 20000 in
theorem w_X12_laysFar_40 (C : Cx p s m args meth c D b cX12_laysFar 4 RX12 (none)) {r : Int} {μ' : Mem} : ∀ (n : Nat) (x0 x1 x2 : Int) (μ : Mem) (H : Heap) (locs : List Loc) (ls : Array Slot), f_X12_laysFar_w40 n x0 x1 x2 μ = some (r, μ') → isK x0 12 → Hw D b μ s.heap H locs → lvh b ls 4 [(0, 2, x0), (1, 0, x1), (2, 0, x2)] → W p l e (rm 4) s m args below meth c H locs 0 0 (QM below args s D b none μ') (F0 m 40 ls []) := by
  intro n
  induction n with
  | zero => intro x0 x1 x2 μ H locs ls hf; cases hf
  | succ n ih =>
    intro x0 x1 x2 μ H locs ls hf t0 hw hl
    rw [f_X12_laysFar_w40.eq_2] at hf
    refine r_iload_n C hl (kx := 2) rfl rfl dX12_laysFar_40 ?_
    refine r_if_eq C (tgt := 135) (by decide) dX12_laysFar_41 (fun c1 => ?_) (fun c1 => ?_)
    · have hf := ite_t c1 hf
      exact r_vret C hw hf dX12_laysFar_135
    · have hf := ite_f c1 hf
      refine r_iconst C dX12_laysFar_44 ?_
      refine r_istore_n C hl (by decide) (L' := [(2, 0, 0), (0, 2, x0), (1, 0, x1)]) rfl rfl dX12_laysFar_45 (fun ls hl => ?_)
      refine r_iconst C dX12_laysFar_46 ?_
      refine r_istore_n C hl (by decide) (L' := [(3, 0, 0), (2, 0, 0), (0, 2, x0), (1, 0, x1)]) rfl rfl dX12_laysFar_47 (fun ls hl => ?_)
      exact w_X12_laysFar_48 C _ ih FU _ _ _ _ _ _ _ _ hf t0 hw (lvh_sub hl [2, 3, 1, 0] rfl)
set_option maxHeartbeats 4000000 in
set_option maxRecDepth 20000 in
theorem w_X12_laysFar_31 (C : Cx p s m args meth c D b cX12_laysFar 4 RX12 (none)) {r : Int} {μ' : Mem} (k2 : Int → Int → Int → Mem → Option (Int × Mem)) (h2 : ∀ (x0 x1 x2 : Int) (μ : Mem) (H : Heap) (locs : List Loc) (ls : Array Slot), k2 x0 x1 x2 μ = some (r, μ') → isK x0 12 → Hw D b μ s.heap H locs → lvh b ls 4 [(0, 2, x0), (1, 0, x1), (2, 0, x2)] → W p l e (rm 4) s m args below meth c H locs 0 0 (QM below args s D b none μ') (F0 m 2 ls [])) {x0 x1 x2 s0 s1 s2 : Int} {μ : Mem} {H : Heap} {locs : List Loc} {ls : Array Slot} (hf : f_X12_laysFar_j31 k2 x0 x1 x2 s0 s1 s2 μ = some (r, μ')) (t0 : isK x0 12) (hw : Hw D b μ s.heap H locs) (hl : lvh b ls 4 [(0, 2, x0), (1, 0, x1), (2, 0, x2)]) : W p l e (rm 4) s m args below meth c H locs 0 0 (QM below args s D b none μ') (F0 m 31 ls [.int (jI s2), .int (jI s1), rfv b s0]) := by
  unfold f_X12_laysFar_j31 at hf
  obtain ⟨g3, hf⟩ := gd_some hf
  obtain ⟨μ1, e2, hf⟩ := nm_some hf
  refine r_iastA C hw g3 dX12_laysFar_31 (fun H locs hw => ?_)
  rw [← e2] at hw
  refine r_iinc C hl (kx := 2) rfl (by decide) (L' := [(2, 0, (x2 + 1)), (0, 2, x0), (1, 0, x1)]) rfl dX12_laysFar_32 (fun ls hl => ?_)
  refine r_goto C (tgt := 2) (by decide) dX12_laysFar_35 ?_
  exact h2 _ _ _ _ _ _ _ hf t0 hw (lvh_sub hl [1, 2, 0] rfl)
set_option maxHeartbeats 4000000 in
set_option maxRecDepth 20000 in
theorem w_X12_laysFar_2 (C : Cx p s m args meth c D b cX12_laysFar 4 RX12 (none)) {r : Int} {μ' : Mem} : ∀ (n : Nat) (x0 x1 x2 : Int) (μ : Mem) (H : Heap) (locs : List Loc) (ls : Array Slot), f_X12_laysFar_w2 n x0 x1 x2 μ = some (r, μ') → isK x0 12 → Hw D b μ s.heap H locs → lvh b ls 4 [(0, 2, x0), (1, 0, x1), (2, 0, x2)] → W p l e (rm 4) s m args below meth c H locs 0 0 (QM below args s D b none μ') (F0 m 2 ls []) := by
  intro n
  induction n with
  | zero => intro x0 x1 x2 μ H locs ls hf; cases hf
  | succ n ih =>
    intro x0 x1 x2 μ H locs ls hf t0 hw hl
    rw [f_X12_laysFar_w2.eq_2] at hf
    refine r_iload_n C hl (kx := 2) rfl rfl dX12_laysFar_2 ?_
    refine r_bipush C (by decide) dX12_laysFar_3 ?_
    refine r_icmp_ge C (tgt := 38) (by decide) dX12_laysFar_5 (fun c1 => ?_) (fun c1 => ?_)
    · have hf := ite_t c1 hf
      refine r_iconst C dX12_laysFar_38 ?_
      refine r_istore_n C hl (by decide) (L' := [(2, 0, 1), (0, 2, x0), (1, 0, x1)]) rfl rfl dX12_laysFar_39 (fun ls hl => ?_)
      exact w_X12_laysFar_40 C FU _ _ _ _ _ _ _ hf t0 hw (lvh_sub hl [1, 2, 0] rfl)
    · have hf := ite_f c1 hf
      refine r_aload_n C hl (kx := 0) rfl rfl dX12_laysFar_8 ?_
      refine gf_12_39 C hw t0 dX12_laysFar_9 ?_
      refine r_iload_n C hl (kx := 2) rfl rfl dX12_laysFar_12 ?_
      refine r_iload_n C hl (kx := 2) rfl rfl dX12_laysFar_13 ?_
      refine r_aload_n C hl (kx := 0) rfl rfl dX12_laysFar_14 ?_
      refine gf_12_13 C hw t0 dX12_laysFar_15 ?_
      refine r_bipush C (by decide) dX12_laysFar_18 ?_
      refine r_iald C hw (n := 3300) (ow_12_1 t0) (j := 55) (by decide) (by decide) (by decide) dX12_laysFar_20 ?_
      refine r_icmp_ne C (tgt := 28) (by decide) dX12_laysFar_21 (fun c2 => ?_) (fun c2 => ?_)
      · have hf := ite_f c2 hf
        refine r_ldcw C (z := 268435456) (by decide) kw1757 dX12_laysFar_28 ?_
        exact w_X12_laysFar_31 C _ ih hf t0 hw (lvh_sub hl [0, 1, 2] rfl)
      · have hf := ite_t c2 hf
        refine r_iconst C dX12_laysFar_24 ?_
        refine r_goto C (tgt := 31) (by decide) dX12_laysFar_25 ?_
        exact w_X12_laysFar_31 C _ ih hf t0 hw (lvh_sub hl [0, 1, 2] rfl)
set_option maxHeartbeats 4000000 in
set_option maxRecDepth 20000 in
theorem w_X12_laysFar_0 (C : Cx p s m args meth c D b cX12_laysFar 4 RX12 (none)) {r : Int} {μ' : Mem} {x0 x1 : Int} {μ : Mem} {H : Heap} {locs : List Loc} {ls : Array Slot} (hf : f_X12_laysFar x0 x1 μ = some (r, μ')) (t0 : isK x0 12) (hw : Hw D b μ s.heap H locs) (hl : lvh b ls 4 [(0, 2, x0), (1, 0, x1)]) : W p l e (rm 4) s m args below meth c H locs 0 0 (QM below args s D b none μ') (F0 m 0 ls []) := by
  unfold f_X12_laysFar at hf
  refine r_iconst C dX12_laysFar_0 ?_
  refine r_istore_n C hl (by decide) (L' := [(2, 0, 0), (0, 2, x0), (1, 0, x1)]) rfl rfl dX12_laysFar_1 (fun ls hl => ?_)
  exact w_X12_laysFar_2 C FU _ _ _ _ _ _ _ hf t0 hw (lvh_sub hl [1, 2, 0] rfl)
theorem c_X12_laysFar (l : Launch) (D : Ds) (b : Nat) {x0 x1 : Int} {μ μ' : Mem} {r : Int} (t0 : isK x0 12) (hf : f_X12_laysFar x0 x1 μ = some (r, μ')) : Ctr l D b yX12_laysFar cX12_laysFar 4 (none) 4 [(2, x0), (0, x1)] μ none μ' := by
  refine Ctr.of (by decide +kernel) (Nat.le_of_ble_eq_true rfl) ?_
  intro p e s m below meth c C hw ls hl
  exact w_X12_laysFar_0 C hf t0 hw hl
set_option maxHeartbeats 4000000 in
set_option maxRecDepth 20000 in
theorem w_X12_everyLane_0 (C : Cx p s m args meth c D b cX12_everyLane 1 RX12 (some .int)) {r : Int} {μ' : Mem} {x0 : Int} {μ : Mem} {H : Heap} {locs : List Loc} {ls : Array Slot} (hf : f_X12_everyLane x0 μ = some (r, μ')) (t0 : isK x0 12) (hw : Hw D b μ s.heap H locs) (hl : lvh b ls 1 [(0, 2, x0)]) : W p l e (rm 0) s m args below meth c H locs 0 0 (QM below args s D b (some (.int (jI r))) μ') (F0 m 0 ls []) := by
  unfold f_X12_everyLane at hf
  refine r_iconst C dX12_everyLane_0 ?_
  refine r_aload_n C hl (kx := 0) rfl rfl dX12_everyLane_1 ?_
  refine gf_12_13 C hw t0 dX12_everyLane_2 ?_
  refine r_iconst C dX12_everyLane_5 ?_
  refine r_iald C hw (n := 3300) (ow_12_1 t0) (j := 2) (by decide) (by decide) (by decide) dX12_everyLane_6 ?_
  refine r_ishl C dX12_everyLane_7 ?_
  refine r_iconst C dX12_everyLane_8 ?_
  refine r_isub C dX12_everyLane_9 ?_
  exact r_iret C hw hf dX12_everyLane_10
theorem c_X12_everyLane (l : Launch) (D : Ds) (b : Nat) {x0 : Int} {μ μ' : Mem} {r : Int} (t0 : isK x0 12) (hf : f_X12_everyLane x0 μ = some (r, μ')) : Ctr l D b yX12_everyLane cX12_everyLane 1 (some .int) 0 [(2, x0)] μ (some (.int (jI r))) μ' := by
  refine Ctr.of (by decide +kernel) (Nat.le_of_ble_eq_true rfl) ?_
  intro p e s m below meth c C hw ls hl
  exact w_X12_everyLane_0 C hf t0 hw hl
set_option maxHeartbeats 4000000 in
set_option maxRecDepth 20000 in
theorem w_X12_reach_47 (C : Cx p s m args meth c D b cX12_reach 3 RX12 (some .int)) {r : Int} {μ' : Mem} (k17 : Int → Int → Int → Mem → Option (Int × Mem)) (h17 : ∀ (x0 x1 x2 : Int) (μ : Mem) (H : Heap) (locs : List Loc) (ls : Array Slot), k17 x0 x1 x2 μ = some (r, μ') → isK x0 12 → Hw D b μ s.heap H locs → lvh b ls 3 [(0, 2, x0), (1, 0, x1), (2, 0, x2)] → W p l e (rm 5) s m args below meth c H locs 0 0 (QM below args s D b (some (.int (jI r))) μ') (F0 m 17 ls [])) {x0 x2 s0 s1 : Int} {μ : Mem} {H : Heap} {locs : List Loc} {ls : Array Slot} (hf : f_X12_reach_j47 k17 x0 x2 s0 s1 μ = some (r, μ')) (t0 : isK x0 12) (hw : Hw D b μ s.heap H locs) (hl : lvh b ls 3 [(0, 2, x0), (2, 0, x2)]) : W p l e (rm 5) s m args below meth c H locs 0 0 (QM below args s D b (some (.int (jI r))) μ') (F0 m 47 ls [.int (jI s1), .int (jI s0)]) := by
  unfold f_X12_reach_j47 at hf
  refine r_ior C dX12_reach_47 ?_
  obtain ⟨v1, e2, hf⟩ := nm_some hf
  refine top_i e2 ?_
  refine r_istore_n C hl (by decide) (L' := [(1, 0, v1), (0, 2, x0), (2, 0, x2)]) rfl rfl dX12_reach_48 (fun ls hl => ?_)
  refine r_iinc C hl (kx := 2) rfl (by decide) (L' := [(2, 0, (x2 + 1)), (1, 0, v1), (0, 2, x0)]) rfl dX12_reach_49 (fun ls hl => ?_)
  refine r_goto C (tgt := 17) (by decide) dX12_reach_52 ?_
  exact h17 _ _ _ _ _ _ _ hf t0 hw (lvh_sub hl [2, 1, 0] rfl)
set_option maxHeartbeats 4000000 in
set_option maxRecDepth 20000 in
theorem w_X12_reach_17 (C : Cx p s m args meth c D b cX12_reach 3 RX12 (some .int)) {r : Int} {μ' : Mem} : ∀ (n : Nat) (x0 x1 x2 : Int) (μ : Mem) (H : Heap) (locs : List Loc) (ls : Array Slot), f_X12_reach_w17 n x0 x1 x2 μ = some (r, μ') → isK x0 12 → Hw D b μ s.heap H locs → lvh b ls 3 [(0, 2, x0), (1, 0, x1), (2, 0, x2)] → W p l e (rm 5) s m args below meth c H locs 0 0 (QM below args s D b (some (.int (jI r))) μ') (F0 m 17 ls []) := by
  intro n
  induction n with
  | zero => intro x0 x1 x2 μ H locs ls hf; cases hf
  | succ n ih =>
    intro x0 x1 x2 μ H locs ls hf t0 hw hl
    rw [f_X12_reach_w17.eq_2] at hf
    refine r_iload_n C hl (kx := 2) rfl rfl dX12_reach_17 ?_
    refine r_aload_n C hl (kx := 0) rfl rfl dX12_reach_18 ?_
    refine gf_12_13 C hw t0 dX12_reach_19 ?_
    refine r_iconst C dX12_reach_22 ?_
    refine r_iald C hw (n := 3300) (ow_12_1 t0) (j := 1) (by decide) (by decide) (by decide) dX12_reach_23 ?_
    refine r_icmp_ge C (tgt := 55) (by decide) dX12_reach_24 (fun c1 => ?_) (fun c1 => ?_)
    · have hf := ite_t c1 hf
      refine r_iload_n C hl (kx := 1) rfl rfl dX12_reach_55 ?_
      exact r_iret C hw hf dX12_reach_56
    · have hf := ite_f c1 hf
      refine r_iload_n C hl (kx := 1) rfl rfl dX12_reach_27 ?_
      refine r_aload_n C hl (kx := 0) rfl rfl dX12_reach_28 ?_
      refine gf_12_39 C hw t0 dX12_reach_29 ?_
      refine r_iload_n C hl (kx := 2) rfl rfl dX12_reach_32 ?_
      obtain ⟨g2, hf⟩ := gd_some hf
      refine r_iald C hw (n := 7) (ow_12_21 t0) (j := (nrm x2)) rfl g2 (by decide) dX12_reach_33 ?_
      refine r_ldcw C (z := 268435456) (by decide) kw1757 dX12_reach_34 ?_
      refine r_icmp_ge C (tgt := 46) (by decide) dX12_reach_37 (fun c3 => ?_) (fun c3 => ?_)
      · have hf := ite_t c3 hf
        refine r_iconst C dX12_reach_46 ?_
        exact w_X12_reach_47 C _ ih hf t0 hw (lvh_sub hl [0, 2] rfl)
      · have hf := ite_f c3 hf
        refine r_iconst C dX12_reach_40 ?_
        refine r_iload_n C hl (kx := 2) rfl rfl dX12_reach_41 ?_
        refine r_ishl C dX12_reach_42 ?_
        refine r_goto C (tgt := 47) (by decide) dX12_reach_43 ?_
        exact w_X12_reach_47 C _ ih hf t0 hw (lvh_sub hl [0, 2] rfl)
set_option maxHeartbeats 4000000 in
set_option maxRecDepth 20000 in
theorem w_X12_reach_0 (C : Cx p s m args meth c D b cX12_reach 3 RX12 (some .int)) {r : Int} {μ' : Mem} {x0 : Int} {μ : Mem} {H : Heap} {locs : List Loc} {ls : Array Slot} (hf : f_X12_reach x0 μ = some (r, μ')) (t0 : isK x0 12) (hw : Hw D b μ s.heap H locs) (hl : lvh b ls 3 [(0, 2, x0)]) : W p l e (rm 5) s m args below meth c H locs 0 0 (QM below args s D b (some (.int (jI r))) μ') (F0 m 0 ls []) := by
  unfold f_X12_reach at hf
  refine r_aload_n C hl (kx := 0) rfl rfl dX12_reach_0 ?_
  refine r_iconst C dX12_reach_1 ?_
  obtain ⟨μ1, e2, hf⟩ := nm_some hf
  refine pf_12_1 C hw t0 dX12_reach_2 (fun H locs hw => ?_)
  rw [← e2] at hw
  refine r_aload_n C hl (kx := 0) rfl rfl dX12_reach_5 ?_
  refine r_aload_n C hl (kx := 0) rfl rfl dX12_reach_6 ?_
  obtain ⟨r4, μ3, e5, hf⟩ := bn_some hf
  refine r_callVv C hw (K := []) ok12 t0 (c_X12_everyLane l D b t0 e5) mi_X12_everyLane in_X12_everyLane se_X12_everyLane kl_12_329 rfl rfl (lvh_sz hl) (by decide) (Kr := [(2, x0)]) rfl (Nat.le_of_ble_eq_true rfl) dX12_reach_7 (fun H locs hw => ?_)
  obtain ⟨r7, μ6, e8, hf⟩ := bn_some hf
  refine r_callVn C hw (K := [(0, r4)]) ok12 t0 (c_X12_laysFar l D b t0 e8) mi_X12_laysFar in_X12_laysFar se_X12_laysFar kl_12_332 rfl rfl (lvh_sz hl) (by decide) (Kr := []) rfl (Nat.le_of_ble_eq_true rfl) dX12_reach_10 (fun H locs hw => ?_)
  refine r_iconst C dX12_reach_13 ?_
  refine r_istore_n C hl (by decide) (L' := [(1, 0, 0), (0, 2, x0)]) rfl rfl dX12_reach_14 (fun ls hl => ?_)
  refine r_iconst C dX12_reach_15 ?_
  refine r_istore_n C hl (by decide) (L' := [(2, 0, 0), (1, 0, 0), (0, 2, x0)]) rfl rfl dX12_reach_16 (fun ls hl => ?_)
  exact w_X12_reach_17 C FU _ _ _ _ _ _ _ hf t0 hw (lvh_sub hl [2, 1, 0] rfl)
theorem c_X12_reach (l : Launch) (D : Ds) (b : Nat) {x0 : Int} {μ μ' : Mem} {r : Int} (t0 : isK x0 12) (hf : f_X12_reach x0 μ = some (r, μ')) : Ctr l D b yX12_reach cX12_reach 3 (some .int) 5 [(2, x0)] μ (some (.int (jI r))) μ' := by
  refine Ctr.of (by decide +kernel) (Nat.le_of_ble_eq_true rfl) ?_
  intro p e s m below meth c C hw ls hl
  exact w_X12_reach_0 C hf t0 hw hl
set_option maxHeartbeats 4000000 in
set_option maxRecDepth 20000 in
theorem w_X12_toldFar_0 (C : Cx p s m args meth c D b cX12_toldFar 1 RX12 (some .int)) {r : Int} {μ' : Mem} {x0 : Int} {μ : Mem} {H : Heap} {locs : List Loc} {ls : Array Slot} (hf : f_X12_toldFar x0 μ = some (r, μ')) (hw : Hw D b μ s.heap H locs) (hl : lvh b ls 1 [(0, 0, x0)]) : W p l e (rm 0) s m args below meth c H locs 0 0 (QM below args s D b (some (.int (jI r))) μ') (F0 m 0 ls []) := by
  unfold f_X12_toldFar at hf
  refine r_iload_n C hl (kx := 0) rfl rfl dX12_toldFar_0 ?_
  refine r_ldcw C (z := 268435456) (by decide) kw1757 dX12_toldFar_1 ?_
  refine r_icmp_lt C (tgt := 11) (by decide) dX12_toldFar_4 (fun c1 => ?_) (fun c1 => ?_)
  · have hf := ite_t c1 hf
    refine r_iload_n C hl (kx := 0) rfl rfl dX12_toldFar_11 ?_
    exact r_iret C hw hf dX12_toldFar_12
  · have hf := ite_f c1 hf
    refine r_iconst C dX12_toldFar_7 ?_
    refine r_goto C (tgt := 12) (by decide) dX12_toldFar_8 ?_
    exact r_iret C hw hf dX12_toldFar_12
theorem c_X12_toldFar (l : Launch) (D : Ds) (b : Nat) {x0 : Int} {μ μ' : Mem} {r : Int} (hf : f_X12_toldFar x0 μ = some (r, μ')) : Ctr l D b yX12_toldFar cX12_toldFar 1 (some .int) 0 [(0, x0)] μ (some (.int (jI r))) μ' := by
  refine Ctr.of (by decide +kernel) (Nat.le_of_ble_eq_true rfl) ?_
  intro p e s m below meth c C hw ls hl
  exact w_X12_toldFar_0 C hf hw hl
set_option maxHeartbeats 4000000 in
set_option maxRecDepth 20000 in
theorem w_X12_soonest_0 (C : Cx p s m args meth c D b cX12_soonest 2 RX12 (some .int)) {r : Int} {μ' : Mem} {x0 x1 : Int} {μ : Mem} {H : Heap} {locs : List Loc} {ls : Array Slot} (hf : f_X12_soonest x0 x1 μ = some (r, μ')) (t0 : isK x0 12) (hw : Hw D b μ s.heap H locs) (hl : lvh b ls 2 [(0, 2, x0), (1, 0, x1)]) : W p l e (rm 5) s m args below meth c H locs 0 0 (QM below args s D b (some (.int (jI r))) μ') (F0 m 0 ls []) := by
  unfold f_X12_soonest at hf
  refine r_aload_n C hl (kx := 0) rfl rfl dX12_soonest_0 ?_
  refine r_iconst C dX12_soonest_1 ?_
  obtain ⟨μ1, e2, hf⟩ := nm_some hf
  refine pf_12_1 C hw t0 dX12_soonest_2 (fun H locs hw => ?_)
  rw [← e2] at hw
  refine r_aload_n C hl (kx := 0) rfl rfl dX12_soonest_5 ?_
  refine r_iload_n C hl (kx := 1) rfl rfl dX12_soonest_6 ?_
  obtain ⟨r4, μ3, e5, hf⟩ := bn_some hf
  refine r_callVv C hw (K := [(0, x1)]) ok12 t0 (c_X12_isPlace l D b t0 e5) mi_X12_isPlace in_X12_isPlace se_X12_isPlace kl_12_335 rfl rfl (lvh_sz hl) (by decide) (Kr := []) rfl (Nat.le_of_ble_eq_true rfl) dX12_soonest_7 (fun H locs hw => ?_)
  refine r_if_ne C (tgt := 16) (by decide) dX12_soonest_10 (fun c6 => ?_) (fun c6 => ?_)
  · have hf := ite_f c6 hf
    refine r_aload_n C hl (kx := 0) rfl rfl dX12_soonest_16 ?_
    refine r_aload_n C hl (kx := 0) rfl rfl dX12_soonest_17 ?_
    obtain ⟨r8, μ7, e9, hf⟩ := bn_some hf
    refine r_callVv C hw (K := []) ok12 t0 (c_X12_everyLane l D b t0 e9) mi_X12_everyLane in_X12_everyLane se_X12_everyLane kl_12_329 rfl rfl (lvh_sz hl) (by decide) (Kr := [(2, x0)]) rfl (Nat.le_of_ble_eq_true rfl) dX12_soonest_18 (fun H locs hw => ?_)
    obtain ⟨r11, μ10, e12, hf⟩ := bn_some hf
    refine r_callVn C hw (K := [(0, r8)]) ok12 t0 (c_X12_laysFar l D b t0 e12) mi_X12_laysFar in_X12_laysFar se_X12_laysFar kl_12_332 rfl rfl (lvh_sz hl) (by decide) (Kr := []) rfl (Nat.le_of_ble_eq_true rfl) dX12_soonest_21 (fun H locs hw => ?_)
    refine r_aload_n C hl (kx := 0) rfl rfl dX12_soonest_24 ?_
    refine gf_12_39 C hw t0 dX12_soonest_25 ?_
    refine r_iload_n C hl (kx := 1) rfl rfl dX12_soonest_28 ?_
    obtain ⟨g13, hf⟩ := gd_some hf
    refine r_iald C hw (n := 7) (ow_12_21 t0) (j := (nrm x1)) rfl g13 (by decide) dX12_soonest_29 ?_
    obtain ⟨r15, μ14, e16, hf⟩ := bn_some hf
    refine r_callSv C hw (K := [(0, (μ10 (x0 + 8) (nrm x1)))]) (c_X12_toldFar l D b e16) mi_X12_toldFar st_X12_toldFar kl_12_338 rfl rfl (lvh_sz hl) (by decide) (Kr := []) rfl (Nat.le_of_ble_eq_true rfl) dX12_soonest_30 (fun H locs hw => ?_)
    exact r_iret C hw hf dX12_soonest_33
  · have hf := ite_t c6 hf
    refine r_bipush C (by decide) dX12_soonest_13 ?_
    exact r_iret C hw hf dX12_soonest_15
theorem c_X12_soonest (l : Launch) (D : Ds) (b : Nat) {x0 x1 : Int} {μ μ' : Mem} {r : Int} (t0 : isK x0 12) (hf : f_X12_soonest x0 x1 μ = some (r, μ')) : Ctr l D b yX12_soonest cX12_soonest 2 (some .int) 5 [(2, x0), (0, x1)] μ (some (.int (jI r))) μ' := by
  refine Ctr.of (by decide +kernel) (Nat.le_of_ble_eq_true rfl) ?_
  intro p e s m below meth c C hw ls hl
  exact w_X12_soonest_0 C hf t0 hw hl
set_option maxHeartbeats 4000000 in
set_option maxRecDepth 20000 in
theorem w_X12_rowsFrom_125 (C : Cx p s m args meth c D b cX12_rowsFrom 8 RX12 (some .int)) {r : Int} {μ' : Mem} (rec : Nat → Int → Int → Int → Int → Mem → Option (Int × Mem)) (h_0 : ∀ (x0 x1 x2 x3 : Int) (μ μ' : Mem) (r : Int), isK x0 12 → rec 0 x0 x1 x2 x3 μ = some (r, μ') → Ctr l D b yX12_rowsFrom cX12_rowsFrom 8 (some .int) (n0 + 3) [(2, x0), (0, x1), (0, x2), (0, x3)] μ (some (.int (jI r))) μ') (k21 : Int → Int → Int → Int → Int → Int → Mem → Option (Int × Mem)) (h21 : ∀ (x0 x1 x2 x3 x4 x5 : Int) (μ : Mem) (H : Heap) (locs : List Loc) (ls : Array Slot), k21 x0 x1 x2 x3 x4 x5 μ = some (r, μ') → isK x0 12 → Hw D b μ s.heap H locs → lvh b ls 8 [(0, 2, x0), (1, 0, x1), (2, 0, x2), (3, 0, x3), (4, 0, x4), (5, 0, x5)] → W p l e (rm (n0 + 1 + 3)) s m args below meth c H locs 0 0 (QM below args s D b (some (.int (jI r))) μ') (F0 m 21 ls [])) {x0 x1 x2 x3 x4 x5 : Int} {μ : Mem} {H : Heap} {locs : List Loc} {ls : Array Slot} (hf : f_X12_rowsFrom_j125 rec k21 x0 x1 x2 x3 x4 x5 μ = some (r, μ')) (t0 : isK x0 12) (hw : Hw D b μ s.heap H locs) (hl : lvh b ls 8 [(0, 2, x0), (1, 0, x1), (2, 0, x2), (3, 0, x3), (4, 0, x4), (5, 0, x5)]) : W p l e (rm (n0 + 1 + 3)) s m args below meth c H locs 0 0 (QM below args s D b (some (.int (jI r))) μ') (F0 m 125 ls []) := by
  unfold f_X12_rowsFrom_j125 at hf
  refine r_iinc C hl (kx := 5) rfl (by decide) (L' := [(5, 0, (x5 + 1)), (0, 2, x0), (1, 0, x1), (2, 0, x2), (3, 0, x3), (4, 0, x4)]) rfl dX12_rowsFrom_125 (fun ls hl => ?_)
  refine r_goto C (tgt := 21) (by decide) dX12_rowsFrom_128 ?_
  exact h21 _ _ _ _ _ _ _ _ _ _ hf t0 hw (lvh_sub hl [1, 2, 3, 4, 5, 0] rfl)
set_option maxHeartbeats 4000000 in
set_option maxRecDepth 20000 in
theorem w_X12_rowsFrom_21 (C : Cx p s m args meth c D b cX12_rowsFrom 8 RX12 (some .int)) {r : Int} {μ' : Mem} (rec : Nat → Int → Int → Int → Int → Mem → Option (Int × Mem)) (h_0 : ∀ (x0 x1 x2 x3 : Int) (μ μ' : Mem) (r : Int), isK x0 12 → rec 0 x0 x1 x2 x3 μ = some (r, μ') → Ctr l D b yX12_rowsFrom cX12_rowsFrom 8 (some .int) (n0 + 3) [(2, x0), (0, x1), (0, x2), (0, x3)] μ (some (.int (jI r))) μ') : ∀ (n : Nat) (x0 x1 x2 x3 x4 x5 : Int) (μ : Mem) (H : Heap) (locs : List Loc) (ls : Array Slot), f_X12_rowsFrom_w21 rec n x0 x1 x2 x3 x4 x5 μ = some (r, μ') → isK x0 12 → Hw D b μ s.heap H locs → lvh b ls 8 [(0, 2, x0), (1, 0, x1), (2, 0, x2), (3, 0, x3), (4, 0, x4), (5, 0, x5)] → W p l e (rm (n0 + 1 + 3)) s m args below meth c H locs 0 0 (QM below args s D b (some (.int (jI r))) μ') (F0 m 21 ls []) := by
  intro n
  induction n with
  | zero => intro x0 x1 x2 x3 x4 x5 μ H locs ls hf; cases hf
  | succ n ih =>
    intro x0 x1 x2 x3 x4 x5 μ H locs ls hf t0 hw hl
    rw [f_X12_rowsFrom_w21.eq_2] at hf
    refine r_iload C hl (kx := 5) rfl dX12_rowsFrom_21 ?_
    refine r_aload_n C hl (kx := 0) rfl rfl dX12_rowsFrom_23 ?_
    refine gf_12_13 C hw t0 dX12_rowsFrom_24 ?_
    refine r_iconst C dX12_rowsFrom_27 ?_
    refine r_iald C hw (n := 3300) (ow_12_1 t0) (j := 2) (by decide) (by decide) (by decide) dX12_rowsFrom_28 ?_
    refine r_icmp_ge C (tgt := 131) (by decide) dX12_rowsFrom_29 (fun c1 => ?_) (fun c1 => ?_)
    · have hf := ite_t c1 hf
      refine r_iload C hl (kx := 4) rfl dX12_rowsFrom_131 ?_
      exact r_iret C hw hf dX12_rowsFrom_133
    · have hf := ite_f c1 hf
      refine r_aload_n C hl (kx := 0) rfl rfl dX12_rowsFrom_32 ?_
      refine r_iload C hl (kx := 5) rfl dX12_rowsFrom_33 ?_
      refine r_iload_n C hl (kx := 1) rfl rfl dX12_rowsFrom_35 ?_
      obtain ⟨r3, μ2, e4, hf⟩ := bn_some hf
      refine r_callVv C hw (K := [(0, x5), (0, x1)]) ok12 t0 (c_X12_otherEnd l D b t0 e4) mi_X12_otherEnd in_X12_otherEnd se_X12_otherEnd kl_12_230 rfl rfl (lvh_sz hl) ⟨by simp only [rm]; omega, by simp only [rm]; omega⟩ (Kr := []) rfl (Nat.le_of_ble_eq_true rfl) dX12_rowsFrom_36 (fun H locs hw => ?_)
      refine r_istore C hl (by decide) (L' := [(6, 0, r3), (0, 2, x0), (1, 0, x1), (2, 0, x2), (3, 0, x3), (4, 0, x4), (5, 0, x5)]) rfl dX12_rowsFrom_39 (fun ls hl => ?_)
      refine r_aload_n C hl (kx := 1) rfl rfl dX12_rowsFrom_41 ?_
      refine gf_12_13 C hw t0 dX12_rowsFrom_42 ?_
      refine r_bipush C (by decide) dX12_rowsFrom_45 ?_
      refine r_iload C hl (kx := 6) rfl dX12_rowsFrom_47 ?_
      refine r_iadd C dX12_rowsFrom_49 ?_
      obtain ⟨g5, hf⟩ := gd_some hf
      refine r_iald C hw (n := 3300) (ow_12_1 t0) (j := (nrm (56 + x5))) rfl g5 (by decide) dX12_rowsFrom_50 ?_
      obtain ⟨v6, e7, hf⟩ := nm_some hf
      refine top_i e7 ?_
      refine r_istore C hl (by decide) (L' := [(7, 0, v6), (6, 0, r3), (0, 2, x0), (1, 0, x1), (2, 0, x2), (3, 0, x3), (4, 0, x4), (5, 0, x5)]) rfl dX12_rowsFrom_51 (fun ls hl => ?_)
      refine r_iload C hl (kx := 1) rfl dX12_rowsFrom_53 ?_
      refine r_iconst C dX12_rowsFrom_55 ?_
      refine r_icmp_eq C (tgt := 125) (by decide) dX12_rowsFrom_56 (fun c8 => ?_) (fun c8 => ?_)
      · have hf := ite_t c8 hf
        exact w_X12_rowsFrom_125 C _ h_0 _ ih hf t0 hw (lvh_sub hl [2, 3, 4, 5, 6, 7] rfl)
      · have hf := ite_f c8 hf
        refine r_aload_n C hl (kx := 2) rfl rfl dX12_rowsFrom_59 ?_
        refine r_iload C hl (kx := 7) rfl dX12_rowsFrom_60 ?_
        refine r_iload C hl (kx := 0) rfl dX12_rowsFrom_62 ?_
        obtain ⟨r10, μ9, e11, hf⟩ := bn_some hf
        refine r_callVv C hw (K := [(0, x5), (0, v6)]) ok12 t0 (c_X12_mayGo l D b t0 e11) mi_X12_mayGo in_X12_mayGo se_X12_mayGo kl_12_222 rfl rfl (lvh_sz hl) ⟨by simp only [rm]; omega, by simp only [rm]; omega⟩ (Kr := []) rfl (Nat.le_of_ble_eq_true rfl) dX12_rowsFrom_64 (fun H locs hw => ?_)
        refine r_if_ne C (tgt := 73) (by decide) dX12_rowsFrom_67 (fun c12 => ?_) (fun c12 => ?_)
        · have hf := ite_f c12 hf
          refine r_aload_n C hl (kx := 2) rfl rfl dX12_rowsFrom_73 ?_
          refine gf_12_13 C hw t0 dX12_rowsFrom_74 ?_
          refine r_bipush C (by decide) dX12_rowsFrom_77 ?_
          refine r_iload C hl (kx := 7) rfl dX12_rowsFrom_79 ?_
          refine r_iadd C dX12_rowsFrom_81 ?_
          refine r_aload_n C hl (kx := 2) rfl rfl dX12_rowsFrom_82 ?_
          refine r_iload C hl (kx := 7) rfl dX12_rowsFrom_83 ?_
          refine r_iload C hl (kx := 0) rfl dX12_rowsFrom_85 ?_
          refine r_aload_n C hl (kx := 2) rfl rfl dX12_rowsFrom_87 ?_
          refine gf_12_13 C hw t0 dX12_rowsFrom_88 ?_
          refine r_bipush C (by decide) dX12_rowsFrom_91 ?_
          refine r_iald C hw (n := 3300) (ow_12_1 t0) (j := 66) (by decide) (by decide) (by decide) dX12_rowsFrom_93 ?_
          obtain ⟨r14, μ13, e15, hf⟩ := bn_some hf
          refine r_callVv C hw (K := [(0, x5), (0, v6), (0, (μ9 (x0 + 1) 66))]) ok12 t0 (c_X12_wornTo l D b t0 e15) mi_X12_wornTo in_X12_wornTo se_X12_wornTo kl_12_240 rfl rfl (lvh_sz hl) ⟨by simp only [rm]; omega, by simp only [rm]; omega⟩ (Kr := [(0, (56 + x5)), (2, (x0 + 1))]) rfl (Nat.le_of_ble_eq_true rfl) dX12_rowsFrom_94 (fun H locs hw => ?_)
          obtain ⟨g18, hf⟩ := gd_some hf
          obtain ⟨μ16, e17, hf⟩ := nm_some hf
          refine r_iast C hw (n := 3300) (ow_12_1 t0) (j := (nrm (56 + x5))) rfl g18 (by decide) dX12_rowsFrom_97 (fun H locs hw => ?_)
          rw [← e17] at hw
          refine r_iload C hl (kx := 6) rfl dX12_rowsFrom_98 ?_
          refine r_aload_n C hl (kx := 2) rfl rfl dX12_rowsFrom_100 ?_
          refine r_iload C hl (kx := 1) rfl dX12_rowsFrom_101 ?_
          refine r_iload_n C hl (kx := 4) rfl rfl dX12_rowsFrom_103 ?_
          refine r_iload_n C hl (kx := 5) rfl rfl dX12_rowsFrom_104 ?_
          refine r_iconst C dX12_rowsFrom_105 ?_
          refine r_isub C dX12_rowsFrom_106 ?_
          obtain ⟨r20, μ19, e21, hf⟩ := bn_some hf
          refine r_callVv C hw (K := [(0, r3), (0, x2), (0, (x3 - 1))]) ok12 t0 (h_0 _ _ _ _ _ _ _ t0 e21) mi_X12_rowsFrom in_X12_rowsFrom se_X12_rowsFrom kl_12_341 rfl rfl (lvh_sz hl) ⟨by simp only [rm]; omega, by simp only [rm]; omega⟩ (Kr := [(0, x4)]) rfl (Nat.le_of_ble_eq_true rfl) dX12_rowsFrom_107 (fun H locs hw => ?_)
          refine r_iadd C dX12_rowsFrom_110 ?_
          obtain ⟨v22, e23, hf⟩ := nm_some hf
          refine top_i e23 ?_
          refine r_istore C hl (by decide) (L' := [(4, 0, v22), (7, 0, v6), (6, 0, r3), (0, 2, x0), (1, 0, x1), (2, 0, x2), (3, 0, x3), (5, 0, x5)]) rfl dX12_rowsFrom_111 (fun ls hl => ?_)
          refine r_aload_n C hl (kx := 3) rfl rfl dX12_rowsFrom_113 ?_
          refine gf_12_13 C hw t0 dX12_rowsFrom_114 ?_
          refine r_bipush C (by decide) dX12_rowsFrom_117 ?_
          refine r_iload C hl (kx := 7) rfl dX12_rowsFrom_119 ?_
          refine r_iadd C dX12_rowsFrom_121 ?_
          refine r_iload C hl (kx := 1) rfl dX12_rowsFrom_122 ?_
          obtain ⟨g26, hf⟩ := gd_some hf
          obtain ⟨μ24, e25, hf⟩ := nm_some hf
          refine r_iast C hw (n := 3300) (ow_12_1 t0) (j := (nrm (56 + x5))) rfl g26 (by decide) dX12_rowsFrom_124 (fun H locs hw => ?_)
          rw [← e25] at hw
          exact w_X12_rowsFrom_125 C _ h_0 _ ih hf t0 hw (lvh_sub hl [3, 4, 5, 6, 0, 7] rfl)
        · have hf := ite_t c12 hf
          refine r_goto C (tgt := 125) (by decide) dX12_rowsFrom_70 ?_
          exact w_X12_rowsFrom_125 C _ h_0 _ ih hf t0 hw (lvh_sub hl [2, 3, 4, 5, 6, 7] rfl)
set_option maxHeartbeats 4000000 in
set_option maxRecDepth 20000 in
theorem w_X12_rowsFrom_0 (C : Cx p s m args meth c D b cX12_rowsFrom 8 RX12 (some .int)) {r : Int} {μ' : Mem} (rec : Nat → Int → Int → Int → Int → Mem → Option (Int × Mem)) (h_0 : ∀ (x0 x1 x2 x3 : Int) (μ μ' : Mem) (r : Int), isK x0 12 → rec 0 x0 x1 x2 x3 μ = some (r, μ') → Ctr l D b yX12_rowsFrom cX12_rowsFrom 8 (some .int) (n0 + 3) [(2, x0), (0, x1), (0, x2), (0, x3)] μ (some (.int (jI r))) μ') {x0 x1 x2 x3 : Int} {μ : Mem} {H : Heap} {locs : List Loc} {ls : Array Slot} (hf : b_X12_rowsFrom rec x0 x1 x2 x3 μ = some (r, μ')) (t0 : isK x0 12) (hw : Hw D b μ s.heap H locs) (hl : lvh b ls 8 [(0, 2, x0), (1, 0, x1), (2, 0, x2), (3, 0, x3)]) : W p l e (rm (n0 + 1 + 3)) s m args below meth c H locs 0 0 (QM below args s D b (some (.int (jI r))) μ') (F0 m 0 ls []) := by
  unfold b_X12_rowsFrom at hf
  refine r_iload_n C hl (kx := 3) rfl rfl dX12_rowsFrom_0 ?_
  refine r_if_ne C (tgt := 15) (by decide) dX12_rowsFrom_1 (fun c1 => ?_) (fun c1 => ?_)
  · have hf := ite_f c1 hf
    refine r_iconst C dX12_rowsFrom_15 ?_
    refine r_istore C hl (by decide) (L' := [(4, 0, 0), (0, 2, x0), (1, 0, x1), (2, 0, x2), (3, 0, x3)]) rfl dX12_rowsFrom_16 (fun ls hl => ?_)
    refine r_iconst C dX12_rowsFrom_18 ?_
    refine r_istore C hl (by decide) (L' := [(5, 0, 0), (4, 0, 0), (0, 2, x0), (1, 0, x1), (2, 0, x2), (3, 0, x3)]) rfl dX12_rowsFrom_19 (fun ls hl => ?_)
    exact w_X12_rowsFrom_21 C _ h_0 FU _ _ _ _ _ _ _ _ _ _ hf t0 hw (lvh_sub hl [2, 3, 4, 5, 1, 0] rfl)
  · have hf := ite_t c1 hf
    refine r_iload_n C hl (kx := 1) rfl rfl dX12_rowsFrom_4 ?_
    refine r_iload_n C hl (kx := 2) rfl rfl dX12_rowsFrom_5 ?_
    refine r_icmp_ne C (tgt := 13) (by decide) dX12_rowsFrom_6 (fun c2 => ?_) (fun c2 => ?_)
    · have hf := ite_f c2 hf
      refine r_iconst C dX12_rowsFrom_13 ?_
      exact r_iret C hw hf dX12_rowsFrom_14
    · have hf := ite_t c2 hf
      refine r_iconst C dX12_rowsFrom_9 ?_
      refine r_goto C (tgt := 14) (by decide) dX12_rowsFrom_10 ?_
      exact r_iret C hw hf dX12_rowsFrom_14
set_option maxHeartbeats 4000000 in
theorem cg_X12_rowsFrom (l : Launch) (D : Ds) (b : Nat) : ∀ n0 : Nat, (∀ (x0 x1 x2 x3 : Int) (μ μ' : Mem) (r : Int), isK x0 12 → g_X12_rowsFrom n0 0 x0 x1 x2 x3 μ = some (r, μ') → Ctr l D b yX12_rowsFrom cX12_rowsFrom 8 (some .int) (n0 + 3) [(2, x0), (0, x1), (0, x2), (0, x3)] μ (some (.int (jI r))) μ') := by
  intro n0
  induction n0 with
  | zero => exact fun _ _ _ _ _ _ _ _ hf => (by cases hf)
  | succ n0 ih =>
    have h_0 := ih
    · intro x0 x1 x2 x3 μ μ' r t0 hf
      rw [g_X12_rowsFrom.eq_2] at hf
      have hf := ite_t rfl hf
      refine Ctr.of (by decide +kernel) (Nat.le_of_ble_eq_true rfl) ?_
      intro p e s m below meth c C hw ls hl
      have hq := w_X12_rowsFrom_0 C (r := r) (μ' := μ') (n0 := n0) (e := e) (below := below) _ h_0 hf t0 hw hl
      exact hq
theorem c_X12_rowsFrom (l : Launch) (D : Ds) (b : Nat) {x0 x1 x2 x3 : Int} {μ μ' : Mem} {r : Int} (t0 : isK x0 12) (hf : f_X12_rowsFrom x0 x1 x2 x3 μ = some (r, μ')) : Ctr l D b yX12_rowsFrom cX12_rowsFrom 8 (some .int) 67 [(2, x0), (0, x1), (0, x2), (0, x3)] μ (some (.int (jI r))) μ' := (cg_X12_rowsFrom l D b 64) _ _ _ _ _ _ _ t0 hf
set_option maxHeartbeats 4000000 in
set_option maxRecDepth 20000 in
theorem w_X12_rows_0 (C : Cx p s m args meth c D b cX12_rows 3 RX12 (some .int)) {r : Int} {μ' : Mem} {x0 x1 x2 : Int} {μ : Mem} {H : Heap} {locs : List Loc} {ls : Array Slot} (hf : f_X12_rows x0 x1 x2 μ = some (r, μ')) (t0 : isK x0 12) (hw : Hw D b μ s.heap H locs) (hl : lvh b ls 3 [(0, 2, x0), (1, 0, x1), (2, 0, x2)]) : W p l e (rm 68) s m args below meth c H locs 0 0 (QM below args s D b (some (.int (jI r))) μ') (F0 m 0 ls []) := by
  unfold f_X12_rows at hf
  refine r_aload_n C hl (kx := 0) rfl rfl dX12_rows_0 ?_
  refine r_iconst C dX12_rows_1 ?_
  obtain ⟨μ1, e2, hf⟩ := nm_some hf
  refine pf_12_1 C hw t0 dX12_rows_2 (fun H locs hw => ?_)
  rw [← e2] at hw
  refine r_aload_n C hl (kx := 0) rfl rfl dX12_rows_5 ?_
  refine r_iload_n C hl (kx := 1) rfl rfl dX12_rows_6 ?_
  obtain ⟨r4, μ3, e5, hf⟩ := bn_some hf
  refine r_callVv C hw (K := [(0, x1)]) ok12 t0 (c_X12_isPlace l D b t0 e5) mi_X12_isPlace in_X12_isPlace se_X12_isPlace kl_12_335 rfl rfl (lvh_sz hl) (by decide) (Kr := []) rfl (Nat.le_of_ble_eq_true rfl) dX12_rows_7 (fun H locs hw => ?_)
  refine r_if_ne C (tgt := 16) (by decide) dX12_rows_10 (fun c6 => ?_) (fun c6 => ?_)
  · have hf := ite_f c6 hf
    refine r_iload_n C hl (kx := 2) rfl rfl dX12_rows_16 ?_
    refine r_i2l C dX12_rows_17 ?_
    refine r_lconst C (z := 0) (by decide) dX12_rows_18 ?_
    refine r_ldc2 C (z := 6) (by decide) kw1780 dX12_rows_19 ?_
    obtain ⟨r8, μ7, e9, hf⟩ := bn_some hf
    refine r_callSv C hw (K := [(1, (nrm x2)), (1, 0), (1, 6)]) (c_X12_within l D b e9) mi_X12_within st_X12_within kl_12_136 rfl rfl (lvh_sz hl) (by decide) (Kr := []) rfl (Nat.le_of_ble_eq_true rfl) dX12_rows_22 (fun H locs hw => ?_)
    refine r_if_eq C (tgt := 44) (by decide) dX12_rows_25 (fun c10 => ?_) (fun c10 => ?_)
    · have hf := ite_t c10 hf
      refine r_bipush C (by decide) dX12_rows_44 ?_
      exact r_iret C hw hf dX12_rows_46
    · have hf := ite_f c10 hf
      refine r_aload_n C hl (kx := 0) rfl rfl dX12_rows_28 ?_
      refine r_aload_n C hl (kx := 0) rfl rfl dX12_rows_29 ?_
      refine gf_12_13 C hw t0 dX12_rows_30 ?_
      refine r_bipush C (by decide) dX12_rows_33 ?_
      refine r_iald C hw (n := 3300) (ow_12_1 t0) (j := 55) (by decide) (by decide) (by decide) dX12_rows_35 ?_
      refine r_iload_n C hl (kx := 1) rfl rfl dX12_rows_36 ?_
      refine r_iload_n C hl (kx := 2) rfl rfl dX12_rows_37 ?_
      obtain ⟨r12, μ11, e13, hf⟩ := bn_some hf
      refine r_callVv C hw (K := [(0, (μ7 (x0 + 1) 55)), (0, x1), (0, x2)]) ok12 t0 (c_X12_rowsFrom l D b t0 e13) mi_X12_rowsFrom in_X12_rowsFrom se_X12_rowsFrom kl_12_341 rfl rfl (lvh_sz hl) (by decide) (Kr := []) rfl (Nat.le_of_ble_eq_true rfl) dX12_rows_38 (fun H locs hw => ?_)
      refine r_goto C (tgt := 46) (by decide) dX12_rows_41 ?_
      exact r_iret C hw hf dX12_rows_46
  · have hf := ite_t c6 hf
    refine r_bipush C (by decide) dX12_rows_13 ?_
    exact r_iret C hw hf dX12_rows_15
theorem c_X12_rows (l : Launch) (D : Ds) (b : Nat) {x0 x1 x2 : Int} {μ μ' : Mem} {r : Int} (t0 : isK x0 12) (hf : f_X12_rows x0 x1 x2 μ = some (r, μ')) : Ctr l D b yX12_rows cX12_rows 3 (some .int) 68 [(2, x0), (0, x1), (0, x2)] μ (some (.int (jI r))) μ' := by
  refine Ctr.of (by decide +kernel) (Nat.le_of_ble_eq_true rfl) ?_
  intro p e s m below meth c C hw ls hl
  exact w_X12_rows_0 C hf t0 hw hl
set_option maxHeartbeats 4000000 in
set_option maxRecDepth 20000 in
theorem w_X12_finds_138 (C : Cx p s m args meth c D b cX12_finds 9 RX12 (some .boolean)) {r : Int} {μ' : Mem} (rec : Nat → Int → Int → Int → Int → Int → Mem → Option (Int × Mem)) (h_0 : ∀ (x0 x1 x2 x3 x4 : Int) (μ μ' : Mem) (r : Int), isK x0 12 → rec 0 x0 x1 x2 x3 x4 μ = some (r, μ') → Ctr l D b yX12_finds cX12_finds 9 (some .boolean) (n0 + 3) [(2, x0), (0, x1), (0, x2), (0, x3), (0, x4)] μ (some (.int (jI r))) μ') (k20 : Int → Int → Int → Int → Int → Int → Mem → Option (Int × Mem)) (h20 : ∀ (x0 x1 x2 x3 x4 x5 : Int) (μ : Mem) (H : Heap) (locs : List Loc) (ls : Array Slot), k20 x0 x1 x2 x3 x4 x5 μ = some (r, μ') → isK x0 12 → Hw D b μ s.heap H locs → lvh b ls 9 [(0, 2, x0), (1, 0, x1), (2, 0, x2), (3, 0, x3), (4, 0, x4), (5, 0, x5)] → W p l e (rm (n0 + 1 + 3)) s m args below meth c H locs 0 0 (QM below args s D b (some (.int (jI r))) μ') (F0 m 20 ls [])) {x0 x1 x2 x3 x4 x5 : Int} {μ : Mem} {H : Heap} {locs : List Loc} {ls : Array Slot} (hf : f_X12_finds_j138 rec k20 x0 x1 x2 x3 x4 x5 μ = some (r, μ')) (t0 : isK x0 12) (hw : Hw D b μ s.heap H locs) (hl : lvh b ls 9 [(0, 2, x0), (1, 0, x1), (2, 0, x2), (3, 0, x3), (4, 0, x4), (5, 0, x5)]) : W p l e (rm (n0 + 1 + 3)) s m args below meth c H locs 0 0 (QM below args s D b (some (.int (jI r))) μ') (F0 m 138 ls []) := by
  unfold f_X12_finds_j138 at hf
  refine r_iinc C hl (kx := 5) rfl (by decide) (L' := [(5, 0, (x5 + 1)), (0, 2, x0), (1, 0, x1), (2, 0, x2), (3, 0, x3), (4, 0, x4)]) rfl dX12_finds_138 (fun ls hl => ?_)
  refine r_goto C (tgt := 20) (by decide) dX12_finds_141 ?_
  exact h20 _ _ _ _ _ _ _ _ _ _ hf t0 hw (lvh_sub hl [1, 2, 3, 4, 5, 0] rfl)
set_option maxHeartbeats 4000000 in
set_option maxRecDepth 20000 in
theorem w_X12_finds_20 (C : Cx p s m args meth c D b cX12_finds 9 RX12 (some .boolean)) {r : Int} {μ' : Mem} (rec : Nat → Int → Int → Int → Int → Int → Mem → Option (Int × Mem)) (h_0 : ∀ (x0 x1 x2 x3 x4 : Int) (μ μ' : Mem) (r : Int), isK x0 12 → rec 0 x0 x1 x2 x3 x4 μ = some (r, μ') → Ctr l D b yX12_finds cX12_finds 9 (some .boolean) (n0 + 3) [(2, x0), (0, x1), (0, x2), (0, x3), (0, x4)] μ (some (.int (jI r))) μ') : ∀ (n : Nat) (x0 x1 x2 x3 x4 x5 : Int) (μ : Mem) (H : Heap) (locs : List Loc) (ls : Array Slot), f_X12_finds_w20 rec n x0 x1 x2 x3 x4 x5 μ = some (r, μ') → isK x0 12 → Hw D b μ s.heap H locs → lvh b ls 9 [(0, 2, x0), (1, 0, x1), (2, 0, x2), (3, 0, x3), (4, 0, x4), (5, 0, x5)] → W p l e (rm (n0 + 1 + 3)) s m args below meth c H locs 0 0 (QM below args s D b (some (.int (jI r))) μ') (F0 m 20 ls []) := by
  intro n
  induction n with
  | zero => intro x0 x1 x2 x3 x4 x5 μ H locs ls hf; cases hf
  | succ n ih =>
    intro x0 x1 x2 x3 x4 x5 μ H locs ls hf t0 hw hl
    rw [f_X12_finds_w20.eq_2] at hf
    refine r_iload C hl (kx := 5) rfl dX12_finds_20 ?_
    refine r_aload_n C hl (kx := 0) rfl rfl dX12_finds_22 ?_
    refine gf_12_13 C hw t0 dX12_finds_23 ?_
    refine r_iconst C dX12_finds_26 ?_
    refine r_iald C hw (n := 3300) (ow_12_1 t0) (j := 2) (by decide) (by decide) (by decide) dX12_finds_27 ?_
    refine r_icmp_ge C (tgt := 144) (by decide) dX12_finds_28 (fun c1 => ?_) (fun c1 => ?_)
    · have hf := ite_t c1 hf
      refine r_iconst C dX12_finds_144 ?_
      exact r_zret C hw (by decide) hf dX12_finds_145
    · have hf := ite_f c1 hf
      refine r_aload_n C hl (kx := 0) rfl rfl dX12_finds_31 ?_
      refine r_iload C hl (kx := 5) rfl dX12_finds_32 ?_
      refine r_iload_n C hl (kx := 1) rfl rfl dX12_finds_34 ?_
      obtain ⟨r3, μ2, e4, hf⟩ := bn_some hf
      refine r_callVv C hw (K := [(0, x5), (0, x1)]) ok12 t0 (c_X12_otherEnd l D b t0 e4) mi_X12_otherEnd in_X12_otherEnd se_X12_otherEnd kl_12_230 rfl rfl (lvh_sz hl) ⟨by simp only [rm]; omega, by simp only [rm]; omega⟩ (Kr := []) rfl (Nat.le_of_ble_eq_true rfl) dX12_finds_35 (fun H locs hw => ?_)
      refine r_istore C hl (by decide) (L' := [(6, 0, r3), (0, 2, x0), (1, 0, x1), (2, 0, x2), (3, 0, x3), (4, 0, x4), (5, 0, x5)]) rfl dX12_finds_38 (fun ls hl => ?_)
      refine r_aload_n C hl (kx := 1) rfl rfl dX12_finds_40 ?_
      refine gf_12_13 C hw t0 dX12_finds_41 ?_
      refine r_bipush C (by decide) dX12_finds_44 ?_
      refine r_iload C hl (kx := 6) rfl dX12_finds_46 ?_
      refine r_iadd C dX12_finds_48 ?_
      obtain ⟨g5, hf⟩ := gd_some hf
      refine r_iald C hw (n := 3300) (ow_12_1 t0) (j := (nrm (56 + x5))) rfl g5 (by decide) dX12_finds_49 ?_
      obtain ⟨v6, e7, hf⟩ := nm_some hf
      refine top_i e7 ?_
      refine r_istore C hl (by decide) (L' := [(7, 0, v6), (6, 0, r3), (0, 2, x0), (1, 0, x1), (2, 0, x2), (3, 0, x3), (4, 0, x4), (5, 0, x5)]) rfl dX12_finds_50 (fun ls hl => ?_)
      refine r_iload C hl (kx := 1) rfl dX12_finds_52 ?_
      refine r_iconst C dX12_finds_54 ?_
      refine r_icmp_eq C (tgt := 138) (by decide) dX12_finds_55 (fun c8 => ?_) (fun c8 => ?_)
      · have hf := ite_t c8 hf
        exact w_X12_finds_138 C _ h_0 _ ih hf t0 hw (lvh_sub hl [2, 3, 4, 5, 6, 7] rfl)
      · have hf := ite_f c8 hf
        refine r_aload_n C hl (kx := 2) rfl rfl dX12_finds_58 ?_
        refine r_iload C hl (kx := 7) rfl dX12_finds_59 ?_
        refine r_iload C hl (kx := 0) rfl dX12_finds_61 ?_
        obtain ⟨r10, μ9, e11, hf⟩ := bn_some hf
        refine r_callVv C hw (K := [(0, x5), (0, v6)]) ok12 t0 (c_X12_mayGo l D b t0 e11) mi_X12_mayGo in_X12_mayGo se_X12_mayGo kl_12_222 rfl rfl (lvh_sz hl) ⟨by simp only [rm]; omega, by simp only [rm]; omega⟩ (Kr := []) rfl (Nat.le_of_ble_eq_true rfl) dX12_finds_63 (fun H locs hw => ?_)
        refine r_if_ne C (tgt := 72) (by decide) dX12_finds_66 (fun c12 => ?_) (fun c12 => ?_)
        · have hf := ite_f c12 hf
          refine r_aload_n C hl (kx := 2) rfl rfl dX12_finds_72 ?_
          refine gf_12_42 C hw t0 dX12_finds_73 ?_
          refine r_iload_n C hl (kx := 5) rfl rfl dX12_finds_76 ?_
          refine r_iload C hl (kx := 7) rfl dX12_finds_77 ?_
          obtain ⟨g15, hf⟩ := gd_some hf
          obtain ⟨μ13, e14, hf⟩ := nm_some hf
          refine r_iast C hw (n := 6) (ow_12_22 t0) (j := (nrm x3)) rfl g15 (by decide) dX12_finds_79 (fun H locs hw => ?_)
          rw [← e14] at hw
          refine r_aload_n C hl (kx := 2) rfl rfl dX12_finds_80 ?_
          refine gf_12_13 C hw t0 dX12_finds_81 ?_
          refine r_bipush C (by decide) dX12_finds_84 ?_
          refine r_iload C hl (kx := 7) rfl dX12_finds_86 ?_
          refine r_iadd C dX12_finds_88 ?_
          refine r_aload_n C hl (kx := 2) rfl rfl dX12_finds_89 ?_
          refine r_iload C hl (kx := 7) rfl dX12_finds_90 ?_
          refine r_iload C hl (kx := 0) rfl dX12_finds_92 ?_
          refine r_aload_n C hl (kx := 2) rfl rfl dX12_finds_94 ?_
          refine gf_12_13 C hw t0 dX12_finds_95 ?_
          refine r_bipush C (by decide) dX12_finds_98 ?_
          refine r_iald C hw (n := 3300) (ow_12_1 t0) (j := 66) (by decide) (by decide) (by decide) dX12_finds_100 ?_
          obtain ⟨r17, μ16, e18, hf⟩ := bn_some hf
          refine r_callVv C hw (K := [(0, x5), (0, v6), (0, (μ13 (x0 + 1) 66))]) ok12 t0 (c_X12_wornTo l D b t0 e18) mi_X12_wornTo in_X12_wornTo se_X12_wornTo kl_12_240 rfl rfl (lvh_sz hl) ⟨by simp only [rm]; omega, by simp only [rm]; omega⟩ (Kr := [(0, (56 + x5)), (2, (x0 + 1))]) rfl (Nat.le_of_ble_eq_true rfl) dX12_finds_101 (fun H locs hw => ?_)
          obtain ⟨g21, hf⟩ := gd_some hf
          obtain ⟨μ19, e20, hf⟩ := nm_some hf
          refine r_iast C hw (n := 3300) (ow_12_1 t0) (j := (nrm (56 + x5))) rfl g21 (by decide) dX12_finds_104 (fun H locs hw => ?_)
          rw [← e20] at hw
          refine r_aload_n C hl (kx := 2) rfl rfl dX12_finds_105 ?_
          refine r_iload C hl (kx := 1) rfl dX12_finds_106 ?_
          refine r_iload_n C hl (kx := 4) rfl rfl dX12_finds_108 ?_
          refine r_iload_n C hl (kx := 5) rfl rfl dX12_finds_109 ?_
          refine r_iconst C dX12_finds_110 ?_
          refine r_iadd C dX12_finds_111 ?_
          refine r_iload C hl (kx := 6) rfl dX12_finds_112 ?_
          obtain ⟨r23, μ22, e24, hf⟩ := bn_some hf
          refine r_callVv C hw (K := [(0, r3), (0, x2), (0, (x3 + 1)), (0, x4)]) ok12 t0 (h_0 _ _ _ _ _ _ _ _ t0 e24) mi_X12_finds in_X12_finds se_X12_finds kl_12_346 rfl rfl (lvh_sz hl) ⟨by simp only [rm]; omega, by simp only [rm]; omega⟩ (Kr := []) rfl (Nat.le_of_ble_eq_true rfl) dX12_finds_114 (fun H locs hw => ?_)
          refine r_istore C hl (by decide) (L' := [(8, 0, r23), (7, 0, v6), (6, 0, r3), (0, 2, x0), (1, 0, x1), (2, 0, x2), (3, 0, x3), (4, 0, x4), (5, 0, x5)]) rfl dX12_finds_117 (fun ls hl => ?_)
          refine r_aload_n C hl (kx := 3) rfl rfl dX12_finds_119 ?_
          refine gf_12_13 C hw t0 dX12_finds_120 ?_
          refine r_bipush C (by decide) dX12_finds_123 ?_
          refine r_iload C hl (kx := 8) rfl dX12_finds_125 ?_
          refine r_iadd C dX12_finds_127 ?_
          refine r_iload C hl (kx := 1) rfl dX12_finds_128 ?_
          obtain ⟨g27, hf⟩ := gd_some hf
          obtain ⟨μ25, e26, hf⟩ := nm_some hf
          refine r_iast C hw (n := 3300) (ow_12_1 t0) (j := (nrm (56 + x5))) rfl g27 (by decide) dX12_finds_130 (fun H locs hw => ?_)
          rw [← e26] at hw
          refine r_iload C hl (kx := 0) rfl dX12_finds_131 ?_
          refine r_if_eq C (tgt := 138) (by decide) dX12_finds_133 (fun c28 => ?_) (fun c28 => ?_)
          · have hf := ite_t c28 hf
            exact w_X12_finds_138 C _ h_0 _ ih hf t0 hw (lvh_sub hl [3, 4, 5, 6, 7, 8] rfl)
          · have hf := ite_f c28 hf
            refine r_iconst C dX12_finds_136 ?_
            exact r_zret C hw (by decide) hf dX12_finds_137
        · have hf := ite_t c12 hf
          refine r_goto C (tgt := 138) (by decide) dX12_finds_69 ?_
          exact w_X12_finds_138 C _ h_0 _ ih hf t0 hw (lvh_sub hl [2, 3, 4, 5, 6, 7] rfl)
set_option maxHeartbeats 4000000 in
set_option maxRecDepth 20000 in
theorem w_X12_finds_0 (C : Cx p s m args meth c D b cX12_finds 9 RX12 (some .boolean)) {r : Int} {μ' : Mem} (rec : Nat → Int → Int → Int → Int → Int → Mem → Option (Int × Mem)) (h_0 : ∀ (x0 x1 x2 x3 x4 : Int) (μ μ' : Mem) (r : Int), isK x0 12 → rec 0 x0 x1 x2 x3 x4 μ = some (r, μ') → Ctr l D b yX12_finds cX12_finds 9 (some .boolean) (n0 + 3) [(2, x0), (0, x1), (0, x2), (0, x3), (0, x4)] μ (some (.int (jI r))) μ') {x0 x1 x2 x3 x4 : Int} {μ : Mem} {H : Heap} {locs : List Loc} {ls : Array Slot} (hf : b_X12_finds rec x0 x1 x2 x3 x4 μ = some (r, μ')) (t0 : isK x0 12) (hw : Hw D b μ s.heap H locs) (hl : lvh b ls 9 [(0, 2, x0), (1, 0, x1), (2, 0, x2), (3, 0, x3), (4, 0, x4)]) : W p l e (rm (n0 + 1 + 3)) s m args below meth c H locs 0 0 (QM below args s D b (some (.int (jI r))) μ') (F0 m 0 ls []) := by
  unfold b_X12_finds at hf
  refine r_iload_n C hl (kx := 3) rfl rfl dX12_finds_0 ?_
  refine r_iload C hl (kx := 4) rfl dX12_finds_1 ?_
  refine r_icmp_ne C (tgt := 17) (by decide) dX12_finds_3 (fun c1 => ?_) (fun c1 => ?_)
  · have hf := ite_f c1 hf
    refine r_iconst C dX12_finds_17 ?_
    refine r_istore C hl (by decide) (L' := [(5, 0, 0), (0, 2, x0), (1, 0, x1), (2, 0, x2), (3, 0, x3), (4, 0, x4)]) rfl dX12_finds_18 (fun ls hl => ?_)
    exact w_X12_finds_20 C _ h_0 FU _ _ _ _ _ _ _ _ _ _ hf t0 hw (lvh_sub hl [1, 2, 3, 4, 5, 0] rfl)
  · have hf := ite_t c1 hf
    refine r_iload_n C hl (kx := 1) rfl rfl dX12_finds_6 ?_
    refine r_iload_n C hl (kx := 2) rfl rfl dX12_finds_7 ?_
    refine r_icmp_ne C (tgt := 15) (by decide) dX12_finds_8 (fun c2 => ?_) (fun c2 => ?_)
    · have hf := ite_f c2 hf
      refine r_iconst C dX12_finds_15 ?_
      exact r_zret C hw (by decide) hf dX12_finds_16
    · have hf := ite_t c2 hf
      refine r_iconst C dX12_finds_11 ?_
      refine r_goto C (tgt := 16) (by decide) dX12_finds_12 ?_
      exact r_zret C hw (by decide) hf dX12_finds_16
set_option maxHeartbeats 4000000 in
theorem cg_X12_finds (l : Launch) (D : Ds) (b : Nat) : ∀ n0 : Nat, (∀ (x0 x1 x2 x3 x4 : Int) (μ μ' : Mem) (r : Int), isK x0 12 → g_X12_finds n0 0 x0 x1 x2 x3 x4 μ = some (r, μ') → Ctr l D b yX12_finds cX12_finds 9 (some .boolean) (n0 + 3) [(2, x0), (0, x1), (0, x2), (0, x3), (0, x4)] μ (some (.int (jI r))) μ') := by
  intro n0
  induction n0 with
  | zero => exact fun _ _ _ _ _ _ _ _ _ hf => (by cases hf)
  | succ n0 ih =>
    have h_0 := ih
    · intro x0 x1 x2 x3 x4 μ μ' r t0 hf
      rw [g_X12_finds.eq_2] at hf
      have hf := ite_t rfl hf
      refine Ctr.of (by decide +kernel) (Nat.le_of_ble_eq_true rfl) ?_
      intro p e s m below meth c C hw ls hl
      have hq := w_X12_finds_0 C (r := r) (μ' := μ') (n0 := n0) (e := e) (below := below) _ h_0 hf t0 hw hl
      exact hq
theorem c_X12_finds (l : Launch) (D : Ds) (b : Nat) {x0 x1 x2 x3 x4 : Int} {μ μ' : Mem} {r : Int} (t0 : isK x0 12) (hf : f_X12_finds x0 x1 x2 x3 x4 μ = some (r, μ')) : Ctr l D b yX12_finds cX12_finds 9 (some .boolean) 67 [(2, x0), (0, x1), (0, x2), (0, x3), (0, x4)] μ (some (.int (jI r))) μ' := (cg_X12_finds l D b 64) _ _ _ _ _ _ _ _ t0 hf
set_option maxHeartbeats 4000000 in
set_option maxRecDepth 20000 in
theorem w_X12_way_38 (C : Cx p s m args meth c D b cX12_way 4 RX12 (some .int)) {r : Int} {μ' : Mem} : ∀ (n : Nat) (x0 x1 x2 x3 : Int) (μ : Mem) (H : Heap) (locs : List Loc) (ls : Array Slot), f_X12_way_w38 n x0 x1 x2 x3 μ = some (r, μ') → isK x0 12 → Hw D b μ s.heap H locs → lvh b ls 4 [(0, 2, x0), (1, 0, x1), (2, 0, x2), (3, 0, x3)] → W p l e (rm 68) s m args below meth c H locs 0 0 (QM below args s D b (some (.int (jI r))) μ') (F0 m 38 ls []) := by
  intro n
  induction n with
  | zero => intro x0 x1 x2 x3 μ H locs ls hf; cases hf
  | succ n ih =>
    intro x0 x1 x2 x3 μ H locs ls hf t0 hw hl
    rw [f_X12_way_w38.eq_2] at hf
    refine r_iload_n C hl (kx := 3) rfl rfl dX12_way_38 ?_
    refine r_bipush C (by decide) dX12_way_39 ?_
    refine r_icmp_gt C (tgt := 83) (by decide) dX12_way_41 (fun c1 => ?_) (fun c1 => ?_)
    · have hf := ite_t c1 hf
      refine r_iconst C dX12_way_83 ?_
      exact r_iret C hw hf dX12_way_84
    · have hf := ite_f c1 hf
      refine r_aload_n C hl (kx := 0) rfl rfl dX12_way_44 ?_
      refine r_aload_n C hl (kx := 0) rfl rfl dX12_way_45 ?_
      refine gf_12_13 C hw t0 dX12_way_46 ?_
      refine r_bipush C (by decide) dX12_way_49 ?_
      refine r_iald C hw (n := 3300) (ow_12_1 t0) (j := 55) (by decide) (by decide) (by decide) dX12_way_51 ?_
      refine r_iload_n C hl (kx := 1) rfl rfl dX12_way_52 ?_
      refine r_iconst C dX12_way_53 ?_
      refine r_iload_n C hl (kx := 3) rfl rfl dX12_way_54 ?_
      obtain ⟨r3, μ2, e4, hf⟩ := bn_some hf
      refine r_callVv C hw (K := [(0, (μ (x0 + 1) 55)), (0, x1), (0, 0), (0, x3)]) ok12 t0 (c_X12_finds l D b t0 e4) mi_X12_finds in_X12_finds se_X12_finds kl_12_346 rfl rfl (lvh_sz hl) (by decide) (Kr := []) rfl (Nat.le_of_ble_eq_true rfl) dX12_way_55 (fun H locs hw => ?_)
      refine r_if_eq C (tgt := 77) (by decide) dX12_way_58 (fun c5 => ?_) (fun c5 => ?_)
      · have hf := ite_t c5 hf
        refine r_iinc C hl (kx := 3) rfl (by decide) (L' := [(3, 0, (x3 + 1)), (0, 2, x0), (1, 0, x1), (2, 0, x2)]) rfl dX12_way_77 (fun ls hl => ?_)
        refine r_goto C (tgt := 38) (by decide) dX12_way_80 ?_
        exact ih _ _ _ _ _ _ _ _ hf t0 hw (lvh_sub hl [1, 2, 3, 0] rfl)
      · have hf := ite_f c5 hf
        refine r_iload_n C hl (kx := 2) rfl rfl dX12_way_61 ?_
        refine r_iload_n C hl (kx := 3) rfl rfl dX12_way_62 ?_
        refine r_icmp_ge C (tgt := 75) (by decide) dX12_way_63 (fun c6 => ?_) (fun c6 => ?_)
        · have hf := ite_t c6 hf
          refine r_iconst C dX12_way_75 ?_
          exact r_iret C hw hf dX12_way_76
        · have hf := ite_f c6 hf
          refine r_aload_n C hl (kx := 0) rfl rfl dX12_way_66 ?_
          refine gf_12_42 C hw t0 dX12_way_67 ?_
          refine r_iload_n C hl (kx := 2) rfl rfl dX12_way_70 ?_
          obtain ⟨g7, hf⟩ := gd_some hf
          refine r_iald C hw (n := 6) (ow_12_22 t0) (j := (nrm x2)) rfl g7 (by decide) dX12_way_71 ?_
          refine r_goto C (tgt := 76) (by decide) dX12_way_72 ?_
          exact r_iret C hw hf dX12_way_76
set_option maxHeartbeats 4000000 in
set_option maxRecDepth 20000 in
theorem w_X12_way_0 (C : Cx p s m args meth c D b cX12_way 4 RX12 (some .int)) {r : Int} {μ' : Mem} {x0 x1 x2 : Int} {μ : Mem} {H : Heap} {locs : List Loc} {ls : Array Slot} (hf : f_X12_way x0 x1 x2 μ = some (r, μ')) (t0 : isK x0 12) (hw : Hw D b μ s.heap H locs) (hl : lvh b ls 4 [(0, 2, x0), (1, 0, x1), (2, 0, x2)]) : W p l e (rm 68) s m args below meth c H locs 0 0 (QM below args s D b (some (.int (jI r))) μ') (F0 m 0 ls []) := by
  unfold f_X12_way at hf
  refine r_aload_n C hl (kx := 0) rfl rfl dX12_way_0 ?_
  refine r_iconst C dX12_way_1 ?_
  obtain ⟨μ1, e2, hf⟩ := nm_some hf
  refine pf_12_1 C hw t0 dX12_way_2 (fun H locs hw => ?_)
  rw [← e2] at hw
  refine r_aload_n C hl (kx := 0) rfl rfl dX12_way_5 ?_
  refine r_iload_n C hl (kx := 1) rfl rfl dX12_way_6 ?_
  obtain ⟨r4, μ3, e5, hf⟩ := bn_some hf
  refine r_callVv C hw (K := [(0, x1)]) ok12 t0 (c_X12_isPlace l D b t0 e5) mi_X12_isPlace in_X12_isPlace se_X12_isPlace kl_12_335 rfl rfl (lvh_sz hl) (by decide) (Kr := []) rfl (Nat.le_of_ble_eq_true rfl) dX12_way_7 (fun H locs hw => ?_)
  refine r_if_ne C (tgt := 16) (by decide) dX12_way_10 (fun c6 => ?_) (fun c6 => ?_)
  · have hf := ite_f c6 hf
    refine r_iload_n C hl (kx := 2) rfl rfl dX12_way_16 ?_
    refine r_if_ge C (tgt := 23) (by decide) dX12_way_17 (fun c7 => ?_) (fun c7 => ?_)
    · have hf := ite_t c7 hf
      refine r_iload_n C hl (kx := 1) rfl rfl dX12_way_23 ?_
      refine r_aload_n C hl (kx := 0) rfl rfl dX12_way_24 ?_
      refine gf_12_13 C hw t0 dX12_way_25 ?_
      refine r_bipush C (by decide) dX12_way_28 ?_
      refine r_iald C hw (n := 3300) (ow_12_1 t0) (j := 55) (by decide) (by decide) (by decide) dX12_way_30 ?_
      refine r_icmp_ne C (tgt := 36) (by decide) dX12_way_31 (fun c8 => ?_) (fun c8 => ?_)
      · have hf := ite_f c8 hf
        refine r_iconst C dX12_way_36 ?_
        refine r_istore_n C hl (by decide) (L' := [(3, 0, 1), (0, 2, x0), (1, 0, x1), (2, 0, x2)]) rfl rfl dX12_way_37 (fun ls hl => ?_)
        exact w_X12_way_38 C FU _ _ _ _ _ _ _ _ hf t0 hw (lvh_sub hl [1, 2, 3, 0] rfl)
      · have hf := ite_t c8 hf
        refine r_iconst C dX12_way_34 ?_
        exact r_iret C hw hf dX12_way_35
    · have hf := ite_f c7 hf
      refine r_bipush C (by decide) dX12_way_20 ?_
      exact r_iret C hw hf dX12_way_22
  · have hf := ite_t c6 hf
    refine r_bipush C (by decide) dX12_way_13 ?_
    exact r_iret C hw hf dX12_way_15
theorem c_X12_way (l : Launch) (D : Ds) (b : Nat) {x0 x1 x2 : Int} {μ μ' : Mem} {r : Int} (t0 : isK x0 12) (hf : f_X12_way x0 x1 x2 μ = some (r, μ')) : Ctr l D b yX12_way cX12_way 4 (some .int) 68 [(2, x0), (0, x1), (0, x2)] μ (some (.int (jI r))) μ' := by
  refine Ctr.of (by decide +kernel) (Nat.le_of_ble_eq_true rfl) ?_
  intro p e s m below meth c C hw ls hl
  exact w_X12_way_0 C hf t0 hw hl
set_option maxHeartbeats 4000000 in
set_option maxRecDepth 20000 in
theorem w_X12_toAndFro_29 (C : Cx p s m args meth c D b cX12_toAndFro 4 RX12 (some .int)) {r : Int} {μ' : Mem} : ∀ (n : Nat) (x0 x1 x2 x3 : Int) (μ : Mem) (H : Heap) (locs : List Loc) (ls : Array Slot), f_X12_toAndFro_w29 n x0 x1 x2 x3 μ = some (r, μ') → isK x0 12 → Hw D b μ s.heap H locs → lvh b ls 4 [(0, 2, x0), (1, 0, x1), (2, 0, x2), (3, 0, x3)] → W p l e (rm 3) s m args below meth c H locs 0 0 (QM below args s D b (some (.int (jI r))) μ') (F0 m 29 ls []) := by
  intro n
  induction n with
  | zero => intro x0 x1 x2 x3 μ H locs ls hf; cases hf
  | succ n ih =>
    intro x0 x1 x2 x3 μ H locs ls hf t0 hw hl
    rw [f_X12_toAndFro_w29.eq_2] at hf
    refine r_iload_n C hl (kx := 3) rfl rfl dX12_toAndFro_29 ?_
    refine r_bipush C (by decide) dX12_toAndFro_30 ?_
    refine r_icmp_ge C (tgt := 64) (by decide) dX12_toAndFro_32 (fun c1 => ?_) (fun c1 => ?_)
    · have hf := ite_t c1 hf
      refine r_iload_n C hl (kx := 3) rfl rfl dX12_toAndFro_64 ?_
      exact r_iret C hw hf dX12_toAndFro_65
    · have hf := ite_f c1 hf
      refine r_aload_n C hl (kx := 0) rfl rfl dX12_toAndFro_35 ?_
      refine r_iload_n C hl (kx := 1) rfl rfl dX12_toAndFro_36 ?_
      refine r_iload_n C hl (kx := 2) rfl rfl dX12_toAndFro_37 ?_
      obtain ⟨r3, μ2, e4, hf⟩ := bn_some hf
      refine r_callVv C hw (K := [(0, x1), (0, x2)]) ok12 t0 (c_X12_mayGo l D b t0 e4) mi_X12_mayGo in_X12_mayGo se_X12_mayGo kl_12_222 rfl rfl (lvh_sz hl) (by decide) (Kr := []) rfl (Nat.le_of_ble_eq_true rfl) dX12_toAndFro_38 (fun H locs hw => ?_)
      refine r_if_eq C (tgt := 64) (by decide) dX12_toAndFro_41 (fun c5 => ?_) (fun c5 => ?_)
      · have hf := ite_t c5 hf
        refine r_iload_n C hl (kx := 3) rfl rfl dX12_toAndFro_64 ?_
        exact r_iret C hw hf dX12_toAndFro_65
      · have hf := ite_f c5 hf
        refine r_aload_n C hl (kx := 0) rfl rfl dX12_toAndFro_44 ?_
        refine r_iload_n C hl (kx := 1) rfl rfl dX12_toAndFro_45 ?_
        refine r_iload_n C hl (kx := 2) rfl rfl dX12_toAndFro_46 ?_
        refine r_aload_n C hl (kx := 0) rfl rfl dX12_toAndFro_47 ?_
        refine gf_12_13 C hw t0 dX12_toAndFro_48 ?_
        refine r_bipush C (by decide) dX12_toAndFro_51 ?_
        refine r_iald C hw (n := 3300) (ow_12_1 t0) (j := 66) (by decide) (by decide) (by decide) dX12_toAndFro_53 ?_
        obtain ⟨r7, μ6, e8, hf⟩ := bn_some hf
        refine r_callVv C hw (K := [(0, x1), (0, x2), (0, (μ2 (x0 + 1) 66))]) ok12 t0 (c_X12_wornTo l D b t0 e8) mi_X12_wornTo in_X12_wornTo se_X12_wornTo kl_12_240 rfl rfl (lvh_sz hl) (by decide) (Kr := []) rfl (Nat.le_of_ble_eq_true rfl) dX12_toAndFro_54 (fun H locs hw => ?_)
        refine r_istore_n C hl (by decide) (L' := [(2, 0, r7), (0, 2, x0), (1, 0, x1), (3, 0, x3)]) rfl rfl dX12_toAndFro_57 (fun ls hl => ?_)
        refine r_iinc C hl (kx := 3) rfl (by decide) (L' := [(3, 0, (x3 + 1)), (2, 0, r7), (0, 2, x0), (1, 0, x1)]) rfl dX12_toAndFro_58 (fun ls hl => ?_)
        refine r_goto C (tgt := 29) (by decide) dX12_toAndFro_61 ?_
        exact ih _ _ _ _ _ _ _ _ hf t0 hw (lvh_sub hl [2, 3, 1, 0] rfl)
set_option maxHeartbeats 4000000 in
set_option maxRecDepth 20000 in
theorem w_X12_toAndFro_0 (C : Cx p s m args meth c D b cX12_toAndFro 4 RX12 (some .int)) {r : Int} {μ' : Mem} {x0 x1 : Int} {μ : Mem} {H : Heap} {locs : List Loc} {ls : Array Slot} (hf : f_X12_toAndFro x0 x1 μ = some (r, μ')) (t0 : isK x0 12) (hw : Hw D b μ s.heap H locs) (hl : lvh b ls 4 [(0, 2, x0), (1, 0, x1)]) : W p l e (rm 3) s m args below meth c H locs 0 0 (QM below args s D b (some (.int (jI r))) μ') (F0 m 0 ls []) := by
  unfold f_X12_toAndFro at hf
  refine r_aload_n C hl (kx := 0) rfl rfl dX12_toAndFro_0 ?_
  refine r_iconst C dX12_toAndFro_1 ?_
  obtain ⟨μ1, e2, hf⟩ := nm_some hf
  refine pf_12_1 C hw t0 dX12_toAndFro_2 (fun H locs hw => ?_)
  rw [← e2] at hw
  refine r_aload_n C hl (kx := 0) rfl rfl dX12_toAndFro_5 ?_
  refine r_iload_n C hl (kx := 1) rfl rfl dX12_toAndFro_6 ?_
  refine r_i2l C dX12_toAndFro_7 ?_
  obtain ⟨r4, μ3, e5, hf⟩ := bn_some hf
  refine r_callVv C hw (K := [(1, (nrm x1))]) ok12 t0 (c_X12_isLane l D b t0 e5) mi_X12_isLane in_X12_isLane se_X12_isLane kl_12_226 rfl rfl (lvh_sz hl) (by decide) (Kr := []) rfl (Nat.le_of_ble_eq_true rfl) dX12_toAndFro_8 (fun H locs hw => ?_)
  refine r_if_ne C (tgt := 17) (by decide) dX12_toAndFro_11 (fun c6 => ?_) (fun c6 => ?_)
  · have hf := ite_f c6 hf
    refine r_aload_n C hl (kx := 0) rfl rfl dX12_toAndFro_17 ?_
    refine gf_12_13 C hw t0 dX12_toAndFro_18 ?_
    refine r_bipush C (by decide) dX12_toAndFro_21 ?_
    refine r_iload_n C hl (kx := 1) rfl rfl dX12_toAndFro_23 ?_
    refine r_iadd C dX12_toAndFro_24 ?_
    obtain ⟨g7, hf⟩ := gd_some hf
    refine r_iald C hw (n := 3300) (ow_12_1 t0) (j := (nrm (56 + x1))) rfl g7 (by decide) dX12_toAndFro_25 ?_
    obtain ⟨v8, e9, hf⟩ := nm_some hf
    refine top_i e9 ?_
    refine r_istore_n C hl (by decide) (L' := [(2, 0, v8), (0, 2, x0), (1, 0, x1)]) rfl rfl dX12_toAndFro_26 (fun ls hl => ?_)
    refine r_iconst C dX12_toAndFro_27 ?_
    refine r_istore_n C hl (by decide) (L' := [(3, 0, 0), (2, 0, v8), (0, 2, x0), (1, 0, x1)]) rfl rfl dX12_toAndFro_28 (fun ls hl => ?_)
    exact w_X12_toAndFro_29 C FU _ _ _ _ _ _ _ _ hf t0 hw (lvh_sub hl [2, 3, 1, 0] rfl)
  · have hf := ite_t c6 hf
    refine r_bipush C (by decide) dX12_toAndFro_14 ?_
    exact r_iret C hw hf dX12_toAndFro_16
theorem c_X12_toAndFro (l : Launch) (D : Ds) (b : Nat) {x0 x1 : Int} {μ μ' : Mem} {r : Int} (t0 : isK x0 12) (hf : f_X12_toAndFro x0 x1 μ = some (r, μ')) : Ctr l D b yX12_toAndFro cX12_toAndFro 4 (some .int) 3 [(2, x0), (0, x1)] μ (some (.int (jI r))) μ' := by
  refine Ctr.of (by decide +kernel) (Nat.le_of_ble_eq_true rfl) ?_
  intro p e s m below meth c C hw ls hl
  exact w_X12_toAndFro_0 C hf t0 hw hl
set_option maxHeartbeats 4000000 in
set_option maxRecDepth 20000 in
theorem w_X12_costOf_0 (C : Cx p s m args meth c D b cX12_costOf 3 RX12 (some .int)) {r : Int} {μ' : Mem} {x0 x1 : Int} {μ : Mem} {H : Heap} {locs : List Loc} {ls : Array Slot} (hf : f_X12_costOf x0 x1 μ = some (r, μ')) (t0 : isK x0 12) (hw : Hw D b μ s.heap H locs) (hl : lvh b ls 3 [(0, 2, x0), (1, 0, x1)]) : W p l e (rm 4) s m args below meth c H locs 0 0 (QM below args s D b (some (.int (jI r))) μ') (F0 m 0 ls []) := by
  unfold f_X12_costOf at hf
  refine r_aload_n C hl (kx := 0) rfl rfl dX12_costOf_0 ?_
  refine r_iload_n C hl (kx := 1) rfl rfl dX12_costOf_1 ?_
  obtain ⟨r2, μ1, e3, hf⟩ := bn_some hf
  refine r_callVv C hw (K := [(0, x1)]) ok12 t0 (c_X12_fillingsOf l D b t0 e3) mi_X12_fillingsOf in_X12_fillingsOf se_X12_fillingsOf kl_12_243 rfl rfl (lvh_sz hl) (by decide) (Kr := []) rfl (Nat.le_of_ble_eq_true rfl) dX12_costOf_2 (fun H locs hw => ?_)
  refine r_istore_n C hl (by decide) (L' := [(2, 0, r2), (0, 2, x0), (1, 0, x1)]) rfl rfl dX12_costOf_5 (fun ls hl => ?_)
  refine r_iload_n C hl (kx := 0) rfl rfl dX12_costOf_6 ?_
  refine r_iconst C dX12_costOf_7 ?_
  refine r_icmp_ne C (tgt := 17) (by decide) dX12_costOf_8 (fun c4 => ?_) (fun c4 => ?_)
  · have hf := ite_f c4 hf
    refine r_sipush C (by decide) dX12_costOf_17 ?_
    refine r_iload_n C hl (kx := 0) rfl rfl dX12_costOf_20 ?_
    refine r_imul C dX12_costOf_21 ?_
    refine r_iconst C dX12_costOf_22 ?_
    refine r_iadd C dX12_costOf_23 ?_
    exact r_iret C hw hf dX12_costOf_24
  · have hf := ite_t c4 hf
    refine r_ldcw C (z := 268435456) (by decide) kw1757 dX12_costOf_11 ?_
    refine r_goto C (tgt := 24) (by decide) dX12_costOf_14 ?_
    exact r_iret C hw hf dX12_costOf_24
theorem c_X12_costOf (l : Launch) (D : Ds) (b : Nat) {x0 x1 : Int} {μ μ' : Mem} {r : Int} (t0 : isK x0 12) (hf : f_X12_costOf x0 x1 μ = some (r, μ')) : Ctr l D b yX12_costOf cX12_costOf 3 (some .int) 4 [(2, x0), (0, x1)] μ (some (.int (jI r))) μ' := by
  refine Ctr.of (by decide +kernel) (Nat.le_of_ble_eq_true rfl) ?_
  intro p e s m below meth c C hw ls hl
  exact w_X12_costOf_0 C hf t0 hw hl
set_option maxHeartbeats 4000000 in
set_option maxRecDepth 20000 in
theorem w_X12_costBy_0 (C : Cx p s m args meth c D b cX12_costBy 4 RX12 (some .int)) {r : Int} {μ' : Mem} {x0 x1 x2 : Int} {μ : Mem} {H : Heap} {locs : List Loc} {ls : Array Slot} (hf : f_X12_costBy x0 x1 x2 μ = some (r, μ')) (t0 : isK x0 12) (hw : Hw D b μ s.heap H locs) (hl : lvh b ls 4 [(0, 2, x0), (1, 0, x1), (2, 0, x2)]) : W p l e (rm 5) s m args below meth c H locs 0 0 (QM below args s D b (some (.int (jI r))) μ') (F0 m 0 ls []) := by
  unfold f_X12_costBy at hf
  refine r_aload_n C hl (kx := 0) rfl rfl dX12_costBy_0 ?_
  refine r_iload_n C hl (kx := 1) rfl rfl dX12_costBy_1 ?_
  refine r_iload_n C hl (kx := 2) rfl rfl dX12_costBy_2 ?_
  obtain ⟨r2, μ1, e3, hf⟩ := bn_some hf
  refine r_callVv C hw (K := [(0, x1), (0, x2)]) ok12 t0 (c_X12_otherEnd l D b t0 e3) mi_X12_otherEnd in_X12_otherEnd se_X12_otherEnd kl_12_230 rfl rfl (lvh_sz hl) (by decide) (Kr := []) rfl (Nat.le_of_ble_eq_true rfl) dX12_costBy_3 (fun H locs hw => ?_)
  refine r_istore_n C hl (by decide) (L' := [(3, 0, r2), (0, 2, x0), (1, 0, x1), (2, 0, x2)]) rfl rfl dX12_costBy_6 (fun ls hl => ?_)
  refine r_iload_n C hl (kx := 0) rfl rfl dX12_costBy_7 ?_
  refine r_iconst C dX12_costBy_8 ?_
  refine r_icmp_eq C (tgt := 35) (by decide) dX12_costBy_9 (fun c4 => ?_) (fun c4 => ?_)
  · have hf := ite_t c4 hf
    refine r_ldcw C (z := 268435456) (by decide) kw1757 dX12_costBy_35 ?_
    refine r_goto C (tgt := 53) (by decide) dX12_costBy_38 ?_
    exact r_iret C hw hf dX12_costBy_53
  · have hf := ite_f c4 hf
    refine r_aload_n C hl (kx := 1) rfl rfl dX12_costBy_12 ?_
    refine r_iload_n C hl (kx := 2) rfl rfl dX12_costBy_13 ?_
    obtain ⟨r6, μ5, e7, hf⟩ := bn_some hf
    refine r_callVv C hw (K := [(0, x1)]) ok12 t0 (c_X12_costOf l D b t0 e7) mi_X12_costOf in_X12_costOf se_X12_costOf kl_12_350 rfl rfl (lvh_sz hl) (by decide) (Kr := []) rfl (Nat.le_of_ble_eq_true rfl) dX12_costBy_14 (fun H locs hw => ?_)
    refine r_ldcw C (z := 268435456) (by decide) kw1757 dX12_costBy_17 ?_
    refine r_icmp_eq C (tgt := 35) (by decide) dX12_costBy_20 (fun c8 => ?_) (fun c8 => ?_)
    · have hf := ite_t c8 hf
      refine r_ldcw C (z := 268435456) (by decide) kw1757 dX12_costBy_35 ?_
      refine r_goto C (tgt := 53) (by decide) dX12_costBy_38 ?_
      exact r_iret C hw hf dX12_costBy_53
    · have hf := ite_f c8 hf
      refine r_aload_n C hl (kx := 1) rfl rfl dX12_costBy_23 ?_
      refine gf_12_45 C hw t0 dX12_costBy_24 ?_
      refine r_iload_n C hl (kx := 0) rfl rfl dX12_costBy_27 ?_
      obtain ⟨g9, hf⟩ := gd_some hf
      refine r_iald C hw (n := 7) (ow_12_23 t0) (j := (nrm r2)) rfl g9 (by decide) dX12_costBy_28 ?_
      refine r_ldcw C (z := 268435456) (by decide) kw1757 dX12_costBy_29 ?_
      refine r_icmp_ne C (tgt := 41) (by decide) dX12_costBy_32 (fun c10 => ?_) (fun c10 => ?_)
      · have hf := ite_f c10 hf
        refine r_aload_n C hl (kx := 1) rfl rfl dX12_costBy_41 ?_
        refine r_iload_n C hl (kx := 2) rfl rfl dX12_costBy_42 ?_
        obtain ⟨r12, μ11, e13, hf⟩ := bn_some hf
        refine r_callVv C hw (K := [(0, x1)]) ok12 t0 (c_X12_costOf l D b t0 e13) mi_X12_costOf in_X12_costOf se_X12_costOf kl_12_350 rfl rfl (lvh_sz hl) (by decide) (Kr := []) rfl (Nat.le_of_ble_eq_true rfl) dX12_costBy_43 (fun H locs hw => ?_)
        refine r_aload_n C hl (kx := 1) rfl rfl dX12_costBy_46 ?_
        refine gf_12_45 C hw t0 dX12_costBy_47 ?_
        refine r_iload_n C hl (kx := 0) rfl rfl dX12_costBy_50 ?_
        obtain ⟨g14, hf⟩ := gd_some hf
        refine r_iald C hw (n := 7) (ow_12_23 t0) (j := (nrm r2)) rfl g14 (by decide) dX12_costBy_51 ?_
        refine r_iadd C dX12_costBy_52 ?_
        exact r_iret C hw hf dX12_costBy_53
      · have hf := ite_t c10 hf
        refine r_ldcw C (z := 268435456) (by decide) kw1757 dX12_costBy_35 ?_
        refine r_goto C (tgt := 53) (by decide) dX12_costBy_38 ?_
        exact r_iret C hw hf dX12_costBy_53
theorem c_X12_costBy (l : Launch) (D : Ds) (b : Nat) {x0 x1 x2 : Int} {μ μ' : Mem} {r : Int} (t0 : isK x0 12) (hf : f_X12_costBy x0 x1 x2 μ = some (r, μ')) : Ctr l D b yX12_costBy cX12_costBy 4 (some .int) 5 [(2, x0), (0, x1), (0, x2)] μ (some (.int (jI r))) μ' := by
  refine Ctr.of (by decide +kernel) (Nat.le_of_ble_eq_true rfl) ?_
  intro p e s m below meth c C hw ls hl
  exact w_X12_costBy_0 C hf t0 hw hl
set_option maxHeartbeats 4000000 in
set_option maxRecDepth 20000 in
theorem w_X12_laysCost_100 (C : Cx p s m args meth c D b cX12_laysCost 5 RX12 (some .int)) {r : Int} {μ' : Mem} (k34 : Int → Int → Mem → Option (Int × Mem)) (h34 : ∀ (x0 x2 : Int) (μ : Mem) (H : Heap) (locs : List Loc) (ls : Array Slot), k34 x0 x2 μ = some (r, μ') → isK x0 12 → Hw D b μ s.heap H locs → lvh b ls 5 [(0, 2, x0), (2, 0, x2)] → W p l e (rm 6) s m args below meth c H locs 0 0 (QM below args s D b (some (.int (jI r))) μ') (F0 m 34 ls [])) (k42 : Int → Int → Int → Mem → Option (Int × Mem)) (h42 : ∀ (x0 x2 x3 : Int) (μ : Mem) (H : Heap) (locs : List Loc) (ls : Array Slot), k42 x0 x2 x3 μ = some (r, μ') → isK x0 12 → Hw D b μ s.heap H locs → lvh b ls 5 [(0, 2, x0), (2, 0, x2), (3, 0, x3)] → W p l e (rm 6) s m args below meth c H locs 0 0 (QM below args s D b (some (.int (jI r))) μ') (F0 m 42 ls [])) (k55 : Int → Int → Int → Int → Mem → Option (Int × Mem)) (h55 : ∀ (x0 x2 x3 x4 : Int) (μ : Mem) (H : Heap) (locs : List Loc) (ls : Array Slot), k55 x0 x2 x3 x4 μ = some (r, μ') → isK x0 12 → Hw D b μ s.heap H locs → lvh b ls 5 [(0, 2, x0), (2, 0, x2), (3, 0, x3), (4, 0, x4)] → W p l e (rm 6) s m args below meth c H locs 0 0 (QM below args s D b (some (.int (jI r))) μ') (F0 m 55 ls [])) {x0 x2 x3 x4 : Int} {μ : Mem} {H : Heap} {locs : List Loc} {ls : Array Slot} (hf : f_X12_laysCost_j100 k34 k42 k55 x0 x2 x3 x4 μ = some (r, μ')) (t0 : isK x0 12) (hw : Hw D b μ s.heap H locs) (hl : lvh b ls 5 [(0, 2, x0), (2, 0, x2), (3, 0, x3), (4, 0, x4)]) : W p l e (rm 6) s m args below meth c H locs 0 0 (QM below args s D b (some (.int (jI r))) μ') (F0 m 100 ls []) := by
  unfold f_X12_laysCost_j100 at hf
  refine r_iinc C hl (kx := 3) rfl (by decide) (L' := [(4, 0, (x4 + 1)), (0, 2, x0), (2, 0, x2), (3, 0, x3)]) rfl dX12_laysCost_100 (fun ls hl => ?_)
  refine r_goto C (tgt := 55) (by decide) dX12_laysCost_103 ?_
  exact h55 _ _ _ _ _ _ _ _ hf t0 hw (lvh_sub hl [1, 2, 3, 0] rfl)
set_option maxHeartbeats 4000000 in
set_option maxRecDepth 20000 in
theorem w_X12_laysCost_55 (C : Cx p s m args meth c D b cX12_laysCost 5 RX12 (some .int)) {r : Int} {μ' : Mem} (k34 : Int → Int → Mem → Option (Int × Mem)) (h34 : ∀ (x0 x2 : Int) (μ : Mem) (H : Heap) (locs : List Loc) (ls : Array Slot), k34 x0 x2 μ = some (r, μ') → isK x0 12 → Hw D b μ s.heap H locs → lvh b ls 5 [(0, 2, x0), (2, 0, x2)] → W p l e (rm 6) s m args below meth c H locs 0 0 (QM below args s D b (some (.int (jI r))) μ') (F0 m 34 ls [])) (k42 : Int → Int → Int → Mem → Option (Int × Mem)) (h42 : ∀ (x0 x2 x3 : Int) (μ : Mem) (H : Heap) (locs : List Loc) (ls : Array Slot), k42 x0 x2 x3 μ = some (r, μ') → isK x0 12 → Hw D b μ s.heap H locs → lvh b ls 5 [(0, 2, x0), (2, 0, x2), (3, 0, x3)] → W p l e (rm 6) s m args below meth c H locs 0 0 (QM below args s D b (some (.int (jI r))) μ') (F0 m 42 ls [])) : ∀ (n : Nat) (x0 x2 x3 x4 : Int) (μ : Mem) (H : Heap) (locs : List Loc) (ls : Array Slot), f_X12_laysCost_w55 k34 k42 n x0 x2 x3 x4 μ = some (r, μ') → isK x0 12 → Hw D b μ s.heap H locs → lvh b ls 5 [(0, 2, x0), (2, 0, x2), (3, 0, x3), (4, 0, x4)] → W p l e (rm 6) s m args below meth c H locs 0 0 (QM below args s D b (some (.int (jI r))) μ') (F0 m 55 ls []) := by
  intro n
  induction n with
  | zero => intro x0 x2 x3 x4 μ H locs ls hf; cases hf
  | succ n ih =>
    intro x0 x2 x3 x4 μ H locs ls hf t0 hw hl
    rw [f_X12_laysCost_w55.eq_2] at hf
    refine r_iload C hl (kx := 3) rfl dX12_laysCost_55 ?_
    refine r_aload_n C hl (kx := 0) rfl rfl dX12_laysCost_57 ?_
    refine gf_12_13 C hw t0 dX12_laysCost_58 ?_
    refine r_iconst C dX12_laysCost_61 ?_
    refine r_iald C hw (n := 3300) (ow_12_1 t0) (j := 2) (by decide) (by decide) (by decide) dX12_laysCost_62 ?_
    refine r_icmp_ge C (tgt := 106) (by decide) dX12_laysCost_63 (fun c1 => ?_) (fun c1 => ?_)
    · have hf := ite_t c1 hf
      refine r_iinc C hl (kx := 2) rfl (by decide) (L' := [(3, 0, (x3 + 1)), (0, 2, x0), (2, 0, x2), (4, 0, x4)]) rfl dX12_laysCost_106 (fun ls hl => ?_)
      refine r_goto C (tgt := 42) (by decide) dX12_laysCost_109 ?_
      exact h42 _ _ _ _ _ _ _ hf t0 hw (lvh_sub hl [1, 2, 0] rfl)
    · have hf := ite_f c1 hf
      refine r_aload_n C hl (kx := 0) rfl rfl dX12_laysCost_66 ?_
      refine r_iload C hl (kx := 3) rfl dX12_laysCost_67 ?_
      refine r_iload_n C hl (kx := 2) rfl rfl dX12_laysCost_69 ?_
      obtain ⟨r3, μ2, e4, hf⟩ := bn_some hf
      refine r_callVv C hw (K := [(0, x4), (0, x3)]) ok12 t0 (c_X12_costBy l D b t0 e4) mi_X12_costBy in_X12_costBy se_X12_costBy kl_12_353 rfl rfl (lvh_sz hl) (by decide) (Kr := []) rfl (Nat.le_of_ble_eq_true rfl) dX12_laysCost_70 (fun H locs hw => ?_)
      refine r_aload_n C hl (kx := 0) rfl rfl dX12_laysCost_73 ?_
      refine gf_12_45 C hw t0 dX12_laysCost_74 ?_
      refine r_iload_n C hl (kx := 2) rfl rfl dX12_laysCost_77 ?_
      obtain ⟨g5, hf⟩ := gd_some hf
      refine r_iald C hw (n := 7) (ow_12_23 t0) (j := (nrm x3)) rfl g5 (by decide) dX12_laysCost_78 ?_
      refine r_icmp_lt C (tgt := 85) (by decide) dX12_laysCost_79 (fun c6 => ?_) (fun c6 => ?_)
      · have hf := ite_t c6 hf
        refine r_aload_n C hl (kx := 0) rfl rfl dX12_laysCost_85 ?_
        refine gf_12_45 C hw t0 dX12_laysCost_86 ?_
        refine r_iload_n C hl (kx := 2) rfl rfl dX12_laysCost_89 ?_
        refine r_aload_n C hl (kx := 0) rfl rfl dX12_laysCost_90 ?_
        refine r_iload C hl (kx := 3) rfl dX12_laysCost_91 ?_
        refine r_iload_n C hl (kx := 2) rfl rfl dX12_laysCost_93 ?_
        obtain ⟨r8, μ7, e9, hf⟩ := bn_some hf
        refine r_callVv C hw (K := [(0, x4), (0, x3)]) ok12 t0 (c_X12_costBy l D b t0 e9) mi_X12_costBy in_X12_costBy se_X12_costBy kl_12_353 rfl rfl (lvh_sz hl) (by decide) (Kr := [(0, x3), (2, (x0 + 10))]) rfl (Nat.le_of_ble_eq_true rfl) dX12_laysCost_94 (fun H locs hw => ?_)
        obtain ⟨g12, hf⟩ := gd_some hf
        obtain ⟨μ10, e11, hf⟩ := nm_some hf
        refine r_iast C hw (n := 7) (ow_12_23 t0) (j := (nrm x3)) rfl g12 (by decide) dX12_laysCost_97 (fun H locs hw => ?_)
        rw [← e11] at hw
        refine r_iconst C dX12_laysCost_98 ?_
        refine r_istore_n C hl (by decide) (L' := [(2, 0, 1), (0, 2, x0), (3, 0, x3), (4, 0, x4)]) rfl rfl dX12_laysCost_99 (fun ls hl => ?_)
        exact w_X12_laysCost_100 C _ h34 _ h42 _ ih hf t0 hw (lvh_sub hl [1, 0, 2, 3] rfl)
      · have hf := ite_f c6 hf
        refine r_goto C (tgt := 100) (by decide) dX12_laysCost_82 ?_
        exact w_X12_laysCost_100 C _ h34 _ h42 _ ih hf t0 hw (lvh_sub hl [0, 1, 2, 3] rfl)
set_option maxHeartbeats 4000000 in
set_option maxRecDepth 20000 in
theorem w_X12_laysCost_42 (C : Cx p s m args meth c D b cX12_laysCost 5 RX12 (some .int)) {r : Int} {μ' : Mem} (k34 : Int → Int → Mem → Option (Int × Mem)) (h34 : ∀ (x0 x2 : Int) (μ : Mem) (H : Heap) (locs : List Loc) (ls : Array Slot), k34 x0 x2 μ = some (r, μ') → isK x0 12 → Hw D b μ s.heap H locs → lvh b ls 5 [(0, 2, x0), (2, 0, x2)] → W p l e (rm 6) s m args below meth c H locs 0 0 (QM below args s D b (some (.int (jI r))) μ') (F0 m 34 ls [])) : ∀ (n : Nat) (x0 x2 x3 : Int) (μ : Mem) (H : Heap) (locs : List Loc) (ls : Array Slot), f_X12_laysCost_w42 k34 n x0 x2 x3 μ = some (r, μ') → isK x0 12 → Hw D b μ s.heap H locs → lvh b ls 5 [(0, 2, x0), (2, 0, x2), (3, 0, x3)] → W p l e (rm 6) s m args below meth c H locs 0 0 (QM below args s D b (some (.int (jI r))) μ') (F0 m 42 ls []) := by
  intro n
  induction n with
  | zero => intro x0 x2 x3 μ H locs ls hf; cases hf
  | succ n ih =>
    intro x0 x2 x3 μ H locs ls hf t0 hw hl
    rw [f_X12_laysCost_w42.eq_2] at hf
    refine r_iload_n C hl (kx := 2) rfl rfl dX12_laysCost_42 ?_
    refine r_aload_n C hl (kx := 0) rfl rfl dX12_laysCost_43 ?_
    refine gf_12_13 C hw t0 dX12_laysCost_44 ?_
    refine r_iconst C dX12_laysCost_47 ?_
    refine r_iald C hw (n := 3300) (ow_12_1 t0) (j := 1) (by decide) (by decide) (by decide) dX12_laysCost_48 ?_
    refine r_icmp_ge C (tgt := 112) (by decide) dX12_laysCost_49 (fun c1 => ?_) (fun c1 => ?_)
    · have hf := ite_t c1 hf
      refine r_goto C (tgt := 34) (by decide) dX12_laysCost_112 ?_
      exact h34 _ _ _ _ _ _ hf t0 hw (lvh_sub hl [0, 1] rfl)
    · have hf := ite_f c1 hf
      refine r_iconst C dX12_laysCost_52 ?_
      refine r_istore C hl (by decide) (L' := [(4, 0, 0), (0, 2, x0), (2, 0, x2), (3, 0, x3)]) rfl dX12_laysCost_53 (fun ls hl => ?_)
      exact w_X12_laysCost_55 C _ h34 _ ih FU _ _ _ _ _ _ _ _ hf t0 hw (lvh_sub hl [1, 2, 3, 0] rfl)
set_option maxHeartbeats 4000000 in
set_option maxRecDepth 20000 in
theorem w_X12_laysCost_34 (C : Cx p s m args meth c D b cX12_laysCost 5 RX12 (some .int)) {r : Int} {μ' : Mem} : ∀ (n : Nat) (x0 x2 : Int) (μ : Mem) (H : Heap) (locs : List Loc) (ls : Array Slot), f_X12_laysCost_w34 n x0 x2 μ = some (r, μ') → isK x0 12 → Hw D b μ s.heap H locs → lvh b ls 5 [(0, 2, x0), (2, 0, x2)] → W p l e (rm 6) s m args below meth c H locs 0 0 (QM below args s D b (some (.int (jI r))) μ') (F0 m 34 ls []) := by
  intro n
  induction n with
  | zero => intro x0 x2 μ H locs ls hf; cases hf
  | succ n ih =>
    intro x0 x2 μ H locs ls hf t0 hw hl
    rw [f_X12_laysCost_w34.eq_2] at hf
    refine r_iload_n C hl (kx := 1) rfl rfl dX12_laysCost_34 ?_
    refine r_if_eq C (tgt := 115) (by decide) dX12_laysCost_35 (fun c1 => ?_) (fun c1 => ?_)
    · have hf := ite_t c1 hf
      refine r_aload_n C hl (kx := 0) rfl rfl dX12_laysCost_115 ?_
      refine gf_12_45 C hw t0 dX12_laysCost_116 ?_
      refine r_aload_n C hl (kx := 0) rfl rfl dX12_laysCost_119 ?_
      refine gf_12_13 C hw t0 dX12_laysCost_120 ?_
      refine r_bipush C (by decide) dX12_laysCost_123 ?_
      refine r_iald C hw (n := 3300) (ow_12_1 t0) (j := 55) (by decide) (by decide) (by decide) dX12_laysCost_125 ?_
      obtain ⟨g2, hf⟩ := gd_some hf
      refine r_iald C hw (n := 7) (ow_12_23 t0) (j := (nrm (μ (x0 + 1) 55))) rfl g2 (by decide) dX12_laysCost_126 ?_
      exact r_iret C hw hf dX12_laysCost_127
    · have hf := ite_f c1 hf
      refine r_iconst C dX12_laysCost_38 ?_
      refine r_istore_n C hl (by decide) (L' := [(2, 0, 0), (0, 2, x0)]) rfl rfl dX12_laysCost_39 (fun ls hl => ?_)
      refine r_iconst C dX12_laysCost_40 ?_
      refine r_istore_n C hl (by decide) (L' := [(3, 0, 0), (2, 0, 0), (0, 2, x0)]) rfl rfl dX12_laysCost_41 (fun ls hl => ?_)
      exact w_X12_laysCost_42 C _ ih FU _ _ _ _ _ _ _ hf t0 hw (lvh_sub hl [2, 1, 0] rfl)
set_option maxHeartbeats 4000000 in
set_option maxRecDepth 20000 in
theorem w_X12_laysCost_25 (C : Cx p s m args meth c D b cX12_laysCost 5 RX12 (some .int)) {r : Int} {μ' : Mem} (k2 : Int → Int → Int → Mem → Option (Int × Mem)) (h2 : ∀ (x0 x1 x2 : Int) (μ : Mem) (H : Heap) (locs : List Loc) (ls : Array Slot), k2 x0 x1 x2 μ = some (r, μ') → isK x0 12 → Hw D b μ s.heap H locs → lvh b ls 5 [(0, 2, x0), (1, 0, x1), (2, 0, x2)] → W p l e (rm 6) s m args below meth c H locs 0 0 (QM below args s D b (some (.int (jI r))) μ') (F0 m 2 ls [])) {x0 x1 x2 s0 s1 s2 : Int} {μ : Mem} {H : Heap} {locs : List Loc} {ls : Array Slot} (hf : f_X12_laysCost_j25 k2 x0 x1 x2 s0 s1 s2 μ = some (r, μ')) (t0 : isK x0 12) (hw : Hw D b μ s.heap H locs) (hl : lvh b ls 5 [(0, 2, x0), (1, 0, x1), (2, 0, x2)]) : W p l e (rm 6) s m args below meth c H locs 0 0 (QM below args s D b (some (.int (jI r))) μ') (F0 m 25 ls [.int (jI s2), .int (jI s1), rfv b s0]) := by
  unfold f_X12_laysCost_j25 at hf
  obtain ⟨g3, hf⟩ := gd_some hf
  obtain ⟨μ1, e2, hf⟩ := nm_some hf
  refine r_iastA C hw g3 dX12_laysCost_25 (fun H locs hw => ?_)
  rw [← e2] at hw
  refine r_iinc C hl (kx := 2) rfl (by decide) (L' := [(2, 0, (x2 + 1)), (0, 2, x0), (1, 0, x1)]) rfl dX12_laysCost_26 (fun ls hl => ?_)
  refine r_goto C (tgt := 2) (by decide) dX12_laysCost_29 ?_
  exact h2 _ _ _ _ _ _ _ hf t0 hw (lvh_sub hl [1, 2, 0] rfl)
set_option maxHeartbeats 4000000 in
set_option maxRecDepth 20000 in
theorem w_X12_laysCost_2 (C : Cx p s m args meth c D b cX12_laysCost 5 RX12 (some .int)) {r : Int} {μ' : Mem} : ∀ (n : Nat) (x0 x1 x2 : Int) (μ : Mem) (H : Heap) (locs : List Loc) (ls : Array Slot), f_X12_laysCost_w2 n x0 x1 x2 μ = some (r, μ') → isK x0 12 → Hw D b μ s.heap H locs → lvh b ls 5 [(0, 2, x0), (1, 0, x1), (2, 0, x2)] → W p l e (rm 6) s m args below meth c H locs 0 0 (QM below args s D b (some (.int (jI r))) μ') (F0 m 2 ls []) := by
  intro n
  induction n with
  | zero => intro x0 x1 x2 μ H locs ls hf; cases hf
  | succ n ih =>
    intro x0 x1 x2 μ H locs ls hf t0 hw hl
    rw [f_X12_laysCost_w2.eq_2] at hf
    refine r_iload_n C hl (kx := 2) rfl rfl dX12_laysCost_2 ?_
    refine r_bipush C (by decide) dX12_laysCost_3 ?_
    refine r_icmp_ge C (tgt := 32) (by decide) dX12_laysCost_5 (fun c1 => ?_) (fun c1 => ?_)
    · have hf := ite_t c1 hf
      refine r_iconst C dX12_laysCost_32 ?_
      refine r_istore_n C hl (by decide) (L' := [(2, 0, 1), (0, 2, x0), (1, 0, x1)]) rfl rfl dX12_laysCost_33 (fun ls hl => ?_)
      exact w_X12_laysCost_34 C FU _ _ _ _ _ _ hf t0 hw (lvh_sub hl [1, 0] rfl)
    · have hf := ite_f c1 hf
      refine r_aload_n C hl (kx := 0) rfl rfl dX12_laysCost_8 ?_
      refine gf_12_45 C hw t0 dX12_laysCost_9 ?_
      refine r_iload_n C hl (kx := 2) rfl rfl dX12_laysCost_12 ?_
      refine r_iload_n C hl (kx := 2) rfl rfl dX12_laysCost_13 ?_
      refine r_iload_n C hl (kx := 1) rfl rfl dX12_laysCost_14 ?_
      refine r_icmp_ne C (tgt := 22) (by decide) dX12_laysCost_15 (fun c2 => ?_) (fun c2 => ?_)
      · have hf := ite_f c2 hf
        refine r_ldcw C (z := 268435456) (by decide) kw1757 dX12_laysCost_22 ?_
        exact w_X12_laysCost_25 C _ ih hf t0 hw (lvh_sub hl [0, 1, 2] rfl)
      · have hf := ite_t c2 hf
        refine r_iconst C dX12_laysCost_18 ?_
        refine r_goto C (tgt := 25) (by decide) dX12_laysCost_19 ?_
        exact w_X12_laysCost_25 C _ ih hf t0 hw (lvh_sub hl [0, 1, 2] rfl)
set_option maxHeartbeats 4000000 in
set_option maxRecDepth 20000 in
theorem w_X12_laysCost_0 (C : Cx p s m args meth c D b cX12_laysCost 5 RX12 (some .int)) {r : Int} {μ' : Mem} {x0 x1 : Int} {μ : Mem} {H : Heap} {locs : List Loc} {ls : Array Slot} (hf : f_X12_laysCost x0 x1 μ = some (r, μ')) (t0 : isK x0 12) (hw : Hw D b μ s.heap H locs) (hl : lvh b ls 5 [(0, 2, x0), (1, 0, x1)]) : W p l e (rm 6) s m args below meth c H locs 0 0 (QM below args s D b (some (.int (jI r))) μ') (F0 m 0 ls []) := by
  unfold f_X12_laysCost at hf
  refine r_iconst C dX12_laysCost_0 ?_
  refine r_istore_n C hl (by decide) (L' := [(2, 0, 0), (0, 2, x0), (1, 0, x1)]) rfl rfl dX12_laysCost_1 (fun ls hl => ?_)
  exact w_X12_laysCost_2 C FU _ _ _ _ _ _ _ hf t0 hw (lvh_sub hl [1, 2, 0] rfl)
theorem c_X12_laysCost (l : Launch) (D : Ds) (b : Nat) {x0 x1 : Int} {μ μ' : Mem} {r : Int} (t0 : isK x0 12) (hf : f_X12_laysCost x0 x1 μ = some (r, μ')) : Ctr l D b yX12_laysCost cX12_laysCost 5 (some .int) 6 [(2, x0), (0, x1)] μ (some (.int (jI r))) μ' := by
  refine Ctr.of (by decide +kernel) (Nat.le_of_ble_eq_true rfl) ?_
  intro p e s m below meth c C hw ls hl
  exact w_X12_laysCost_0 C hf t0 hw hl
set_option maxHeartbeats 4000000 in
set_option maxRecDepth 20000 in
theorem w_X12_laneAt_34 (C : Cx p s m args meth c D b cX12_laneAt 5 RX12 (some .int)) {r : Int} {μ' : Mem} (k10 : Int → Int → Int → Int → Mem → Option (Int × Mem)) (h10 : ∀ (x0 x1 x2 x3 : Int) (μ : Mem) (H : Heap) (locs : List Loc) (ls : Array Slot), k10 x0 x1 x2 x3 μ = some (r, μ') → isK x0 12 → Hw D b μ s.heap H locs → lvh b ls 5 [(0, 2, x0), (1, 0, x1), (2, 0, x2), (3, 0, x3)] → W p l e (rm 6) s m args below meth c H locs 0 0 (QM below args s D b (some (.int (jI r))) μ') (F0 m 10 ls [])) : ∀ (n : Nat) (x0 x1 x2 x3 x4 : Int) (μ : Mem) (H : Heap) (locs : List Loc) (ls : Array Slot), f_X12_laneAt_w34 k10 n x0 x1 x2 x3 x4 μ = some (r, μ') → isK x0 12 → Hw D b μ s.heap H locs → lvh b ls 5 [(0, 2, x0), (1, 0, x1), (2, 0, x2), (3, 0, x3), (4, 0, x4)] → W p l e (rm 6) s m args below meth c H locs 0 0 (QM below args s D b (some (.int (jI r))) μ') (F0 m 34 ls []) := by
  intro n
  induction n with
  | zero => intro x0 x1 x2 x3 x4 μ H locs ls hf; cases hf
  | succ n ih =>
    intro x0 x1 x2 x3 x4 μ H locs ls hf t0 hw hl
    rw [f_X12_laneAt_w34.eq_2] at hf
    refine r_aload_n C hl (kx := 0) rfl rfl dX12_laneAt_34 ?_
    refine r_iload C hl (kx := 4) rfl dX12_laneAt_35 ?_
    refine r_iload_n C hl (kx := 2) rfl rfl dX12_laneAt_37 ?_
    obtain ⟨r2, μ1, e3, hf⟩ := bn_some hf
    refine r_callVv C hw (K := [(0, x4), (0, x2)]) ok12 t0 (c_X12_costBy l D b t0 e3) mi_X12_costBy in_X12_costBy se_X12_costBy kl_12_353 rfl rfl (lvh_sz hl) (by decide) (Kr := []) rfl (Nat.le_of_ble_eq_true rfl) dX12_laneAt_38 (fun H locs hw => ?_)
    refine r_aload_n C hl (kx := 0) rfl rfl dX12_laneAt_41 ?_
    refine gf_12_45 C hw t0 dX12_laneAt_42 ?_
    refine r_iload_n C hl (kx := 2) rfl rfl dX12_laneAt_45 ?_
    obtain ⟨g4, hf⟩ := gd_some hf
    refine r_iald C hw (n := 7) (ow_12_23 t0) (j := (nrm x2)) rfl g4 (by decide) dX12_laneAt_46 ?_
    refine r_icmp_eq C (tgt := 56) (by decide) dX12_laneAt_47 (fun c5 => ?_) (fun c5 => ?_)
    · have hf := ite_t c5 hf
      refine r_iload_n C hl (kx := 3) rfl rfl dX12_laneAt_56 ?_
      refine r_iload_n C hl (kx := 1) rfl rfl dX12_laneAt_57 ?_
      refine r_icmp_ne C (tgt := 64) (by decide) dX12_laneAt_58 (fun c6 => ?_) (fun c6 => ?_)
      · have hf := ite_f c6 hf
        refine r_aload_n C hl (kx := 0) rfl rfl dX12_laneAt_64 ?_
        refine r_iload C hl (kx := 4) rfl dX12_laneAt_65 ?_
        refine r_iload_n C hl (kx := 2) rfl rfl dX12_laneAt_67 ?_
        obtain ⟨r8, μ7, e9, hf⟩ := bn_some hf
        refine r_callVv C hw (K := [(0, x4), (0, x2)]) ok12 t0 (c_X12_otherEnd l D b t0 e9) mi_X12_otherEnd in_X12_otherEnd se_X12_otherEnd kl_12_230 rfl rfl (lvh_sz hl) (by decide) (Kr := []) rfl (Nat.le_of_ble_eq_true rfl) dX12_laneAt_68 (fun H locs hw => ?_)
        refine r_istore_n C hl (by decide) (L' := [(2, 0, r8), (0, 2, x0), (1, 0, x1), (3, 0, x3), (4, 0, x4)]) rfl rfl dX12_laneAt_71 (fun ls hl => ?_)
        refine r_iinc C hl (kx := 3) rfl (by decide) (L' := [(3, 0, (x3 + 1)), (2, 0, r8), (0, 2, x0), (1, 0, x1), (4, 0, x4)]) rfl dX12_laneAt_72 (fun ls hl => ?_)
        refine r_goto C (tgt := 10) (by decide) dX12_laneAt_75 ?_
        exact h10 _ _ _ _ _ _ _ _ hf t0 hw (lvh_sub hl [2, 3, 1, 0] rfl)
      · have hf := ite_t c6 hf
        refine r_iload C hl (kx := 4) rfl dX12_laneAt_61 ?_
        exact r_iret C hw hf dX12_laneAt_63
    · have hf := ite_f c5 hf
      refine r_iinc C hl (kx := 4) rfl (by decide) (L' := [(4, 0, (x4 + 1)), (0, 2, x0), (1, 0, x1), (2, 0, x2), (3, 0, x3)]) rfl dX12_laneAt_50 (fun ls hl => ?_)
      refine r_goto C (tgt := 34) (by decide) dX12_laneAt_53 ?_
      exact ih _ _ _ _ _ _ _ _ _ hf t0 hw (lvh_sub hl [1, 2, 3, 4, 0] rfl)
set_option maxHeartbeats 4000000 in
set_option maxRecDepth 20000 in
theorem w_X12_laneAt_10 (C : Cx p s m args meth c D b cX12_laneAt 5 RX12 (some .int)) {r : Int} {μ' : Mem} : ∀ (n : Nat) (x0 x1 x2 x3 : Int) (μ : Mem) (H : Heap) (locs : List Loc) (ls : Array Slot), f_X12_laneAt_w10 n x0 x1 x2 x3 μ = some (r, μ') → isK x0 12 → Hw D b μ s.heap H locs → lvh b ls 5 [(0, 2, x0), (1, 0, x1), (2, 0, x2), (3, 0, x3)] → W p l e (rm 6) s m args below meth c H locs 0 0 (QM below args s D b (some (.int (jI r))) μ') (F0 m 10 ls []) := by
  intro n
  induction n with
  | zero => intro x0 x1 x2 x3 μ H locs ls hf; cases hf
  | succ n ih =>
    intro x0 x1 x2 x3 μ H locs ls hf t0 hw hl
    rw [f_X12_laneAt_w10.eq_2] at hf
    refine r_aload_n C hl (kx := 0) rfl rfl dX12_laneAt_10 ?_
    refine gf_12_45 C hw t0 dX12_laneAt_11 ?_
    refine r_iload_n C hl (kx := 2) rfl rfl dX12_laneAt_14 ?_
    obtain ⟨g1, hf⟩ := gd_some hf
    refine r_iald C hw (n := 7) (ow_12_23 t0) (j := (nrm x2)) rfl g1 (by decide) dX12_laneAt_15 ?_
    refine r_if_le C (tgt := 78) (by decide) dX12_laneAt_16 (fun c2 => ?_) (fun c2 => ?_)
    · have hf := ite_t c2 hf
      refine r_iconst C dX12_laneAt_78 ?_
      exact r_iret C hw hf dX12_laneAt_79
    · have hf := ite_f c2 hf
      refine r_aload_n C hl (kx := 0) rfl rfl dX12_laneAt_19 ?_
      refine gf_12_45 C hw t0 dX12_laneAt_20 ?_
      refine r_iload_n C hl (kx := 2) rfl rfl dX12_laneAt_23 ?_
      obtain ⟨g3, hf⟩ := gd_some hf
      refine r_iald C hw (n := 7) (ow_12_23 t0) (j := (nrm x2)) rfl g3 (by decide) dX12_laneAt_24 ?_
      refine r_ldcw C (z := 268435456) (by decide) kw1757 dX12_laneAt_25 ?_
      refine r_icmp_ge C (tgt := 78) (by decide) dX12_laneAt_28 (fun c4 => ?_) (fun c4 => ?_)
      · have hf := ite_t c4 hf
        refine r_iconst C dX12_laneAt_78 ?_
        exact r_iret C hw hf dX12_laneAt_79
      · have hf := ite_f c4 hf
        refine r_iconst C dX12_laneAt_31 ?_
        refine r_istore C hl (by decide) (L' := [(4, 0, 0), (0, 2, x0), (1, 0, x1), (2, 0, x2), (3, 0, x3)]) rfl dX12_laneAt_32 (fun ls hl => ?_)
        exact w_X12_laneAt_34 C _ ih FU _ _ _ _ _ _ _ _ _ hf t0 hw (lvh_sub hl [1, 2, 3, 4, 0] rfl)
set_option maxHeartbeats 4000000 in
set_option maxRecDepth 20000 in
theorem w_X12_laneAt_0 (C : Cx p s m args meth c D b cX12_laneAt 5 RX12 (some .int)) {r : Int} {μ' : Mem} {x0 x1 : Int} {μ : Mem} {H : Heap} {locs : List Loc} {ls : Array Slot} (hf : f_X12_laneAt x0 x1 μ = some (r, μ')) (t0 : isK x0 12) (hw : Hw D b μ s.heap H locs) (hl : lvh b ls 5 [(0, 2, x0), (1, 0, x1)]) : W p l e (rm 6) s m args below meth c H locs 0 0 (QM below args s D b (some (.int (jI r))) μ') (F0 m 0 ls []) := by
  unfold f_X12_laneAt at hf
  refine r_aload_n C hl (kx := 0) rfl rfl dX12_laneAt_0 ?_
  refine gf_12_13 C hw t0 dX12_laneAt_1 ?_
  refine r_bipush C (by decide) dX12_laneAt_4 ?_
  refine r_iald C hw (n := 3300) (ow_12_1 t0) (j := 55) (by decide) (by decide) (by decide) dX12_laneAt_6 ?_
  obtain ⟨v1, e2, hf⟩ := nm_some hf
  refine top_i e2 ?_
  refine r_istore_n C hl (by decide) (L' := [(2, 0, v1), (0, 2, x0), (1, 0, x1)]) rfl rfl dX12_laneAt_7 (fun ls hl => ?_)
  refine r_iconst C dX12_laneAt_8 ?_
  refine r_istore_n C hl (by decide) (L' := [(3, 0, 0), (2, 0, v1), (0, 2, x0), (1, 0, x1)]) rfl rfl dX12_laneAt_9 (fun ls hl => ?_)
  exact w_X12_laneAt_10 C FU _ _ _ _ _ _ _ _ hf t0 hw (lvh_sub hl [2, 3, 1, 0] rfl)
theorem c_X12_laneAt (l : Launch) (D : Ds) (b : Nat) {x0 x1 : Int} {μ μ' : Mem} {r : Int} (t0 : isK x0 12) (hf : f_X12_laneAt x0 x1 μ = some (r, μ')) : Ctr l D b yX12_laneAt cX12_laneAt 5 (some .int) 6 [(2, x0), (0, x1)] μ (some (.int (jI r))) μ' := by
  refine Ctr.of (by decide +kernel) (Nat.le_of_ble_eq_true rfl) ?_
  intro p e s m below meth c C hw ls hl
  exact w_X12_laneAt_0 C hf t0 hw hl
set_option maxHeartbeats 4000000 in
set_option maxRecDepth 20000 in
theorem w_X12_cheapest_0 (C : Cx p s m args meth c D b cX12_cheapest 4 RX12 (some .int)) {r : Int} {μ' : Mem} {x0 x1 x2 : Int} {μ : Mem} {H : Heap} {locs : List Loc} {ls : Array Slot} (hf : f_X12_cheapest x0 x1 x2 μ = some (r, μ')) (t0 : isK x0 12) (hw : Hw D b μ s.heap H locs) (hl : lvh b ls 4 [(0, 2, x0), (1, 0, x1), (2, 0, x2)]) : W p l e (rm 7) s m args below meth c H locs 0 0 (QM below args s D b (some (.int (jI r))) μ') (F0 m 0 ls []) := by
  unfold f_X12_cheapest at hf
  refine r_aload_n C hl (kx := 0) rfl rfl dX12_cheapest_0 ?_
  refine r_iconst C dX12_cheapest_1 ?_
  obtain ⟨μ1, e2, hf⟩ := nm_some hf
  refine pf_12_1 C hw t0 dX12_cheapest_2 (fun H locs hw => ?_)
  rw [← e2] at hw
  refine r_aload_n C hl (kx := 0) rfl rfl dX12_cheapest_5 ?_
  refine r_iload_n C hl (kx := 1) rfl rfl dX12_cheapest_6 ?_
  obtain ⟨r4, μ3, e5, hf⟩ := bn_some hf
  refine r_callVv C hw (K := [(0, x1)]) ok12 t0 (c_X12_isPlace l D b t0 e5) mi_X12_isPlace in_X12_isPlace se_X12_isPlace kl_12_335 rfl rfl (lvh_sz hl) (by decide) (Kr := []) rfl (Nat.le_of_ble_eq_true rfl) dX12_cheapest_7 (fun H locs hw => ?_)
  refine r_if_eq C (tgt := 23) (by decide) dX12_cheapest_10 (fun c6 => ?_) (fun c6 => ?_)
  · have hf := ite_t c6 hf
    refine r_bipush C (by decide) dX12_cheapest_23 ?_
    exact r_iret C hw hf dX12_cheapest_25
  · have hf := ite_f c6 hf
    refine r_iload_n C hl (kx := 2) rfl rfl dX12_cheapest_13 ?_
    refine r_i2l C dX12_cheapest_14 ?_
    refine r_lconst C (z := 0) (by decide) dX12_cheapest_15 ?_
    refine r_lconst C (z := 1) (by decide) dX12_cheapest_16 ?_
    obtain ⟨r8, μ7, e9, hf⟩ := bn_some hf
    refine r_callSv C hw (K := [(1, (nrm x2)), (1, 0), (1, 1)]) (c_X12_within l D b e9) mi_X12_within st_X12_within kl_12_136 rfl rfl (lvh_sz hl) (by decide) (Kr := []) rfl (Nat.le_of_ble_eq_true rfl) dX12_cheapest_17 (fun H locs hw => ?_)
    refine r_if_ne C (tgt := 26) (by decide) dX12_cheapest_20 (fun c10 => ?_) (fun c10 => ?_)
    · have hf := ite_f c10 hf
      refine r_aload_n C hl (kx := 0) rfl rfl dX12_cheapest_26 ?_
      refine r_iload_n C hl (kx := 1) rfl rfl dX12_cheapest_27 ?_
      obtain ⟨r12, μ11, e13, hf⟩ := bn_some hf
      refine r_callVv C hw (K := [(0, x1)]) ok12 t0 (c_X12_laysCost l D b t0 e13) mi_X12_laysCost in_X12_laysCost se_X12_laysCost kl_12_356 rfl rfl (lvh_sz hl) (by decide) (Kr := []) rfl (Nat.le_of_ble_eq_true rfl) dX12_cheapest_28 (fun H locs hw => ?_)
      refine r_istore_n C hl (by decide) (L' := [(3, 0, r12), (0, 2, x0), (1, 0, x1), (2, 0, x2)]) rfl rfl dX12_cheapest_31 (fun ls hl => ?_)
      refine r_iload_n C hl (kx := 0) rfl rfl dX12_cheapest_32 ?_
      refine r_ldcw C (z := 268435456) (by decide) kw1757 dX12_cheapest_33 ?_
      refine r_icmp_ne C (tgt := 43) (by decide) dX12_cheapest_36 (fun c14 => ?_) (fun c14 => ?_)
      · have hf := ite_f c14 hf
        refine r_iload_n C hl (kx := 3) rfl rfl dX12_cheapest_43 ?_
        refine r_if_ne C (tgt := 55) (by decide) dX12_cheapest_44 (fun c15 => ?_) (fun c15 => ?_)
        · have hf := ite_f c15 hf
          refine r_iload_n C hl (kx := 0) rfl rfl dX12_cheapest_55 ?_
          refine r_sipush C (by decide) dX12_cheapest_56 ?_
          refine r_irem C (by decide) dX12_cheapest_59 ?_
          exact r_iret C hw hf dX12_cheapest_60
        · have hf := ite_t c15 hf
          refine r_iload_n C hl (kx := 0) rfl rfl dX12_cheapest_47 ?_
          refine r_sipush C (by decide) dX12_cheapest_48 ?_
          refine r_idiv C (by decide) dX12_cheapest_51 ?_
          refine r_goto C (tgt := 60) (by decide) dX12_cheapest_52 ?_
          exact r_iret C hw hf dX12_cheapest_60
      · have hf := ite_t c14 hf
        refine r_iconst C dX12_cheapest_39 ?_
        refine r_goto C (tgt := 60) (by decide) dX12_cheapest_40 ?_
        exact r_iret C hw hf dX12_cheapest_60
    · have hf := ite_t c10 hf
      refine r_bipush C (by decide) dX12_cheapest_23 ?_
      exact r_iret C hw hf dX12_cheapest_25
theorem c_X12_cheapest (l : Launch) (D : Ds) (b : Nat) {x0 x1 x2 : Int} {μ μ' : Mem} {r : Int} (t0 : isK x0 12) (hf : f_X12_cheapest x0 x1 x2 μ = some (r, μ')) : Ctr l D b yX12_cheapest cX12_cheapest 4 (some .int) 7 [(2, x0), (0, x1), (0, x2)] μ (some (.int (jI r))) μ' := by
  refine Ctr.of (by decide +kernel) (Nat.le_of_ble_eq_true rfl) ?_
  intro p e s m below meth c C hw ls hl
  exact w_X12_cheapest_0 C hf t0 hw hl
set_option maxHeartbeats 4000000 in
set_option maxRecDepth 20000 in
theorem w_X12_cheapBy_0 (C : Cx p s m args meth c D b cX12_cheapBy 3 RX12 (some .int)) {r : Int} {μ' : Mem} {x0 x1 x2 : Int} {μ : Mem} {H : Heap} {locs : List Loc} {ls : Array Slot} (hf : f_X12_cheapBy x0 x1 x2 μ = some (r, μ')) (t0 : isK x0 12) (hw : Hw D b μ s.heap H locs) (hl : lvh b ls 3 [(0, 2, x0), (1, 0, x1), (2, 0, x2)]) : W p l e (rm 7) s m args below meth c H locs 0 0 (QM below args s D b (some (.int (jI r))) μ') (F0 m 0 ls []) := by
  unfold f_X12_cheapBy at hf
  refine r_aload_n C hl (kx := 0) rfl rfl dX12_cheapBy_0 ?_
  refine r_iconst C dX12_cheapBy_1 ?_
  obtain ⟨μ1, e2, hf⟩ := nm_some hf
  refine pf_12_1 C hw t0 dX12_cheapBy_2 (fun H locs hw => ?_)
  rw [← e2] at hw
  refine r_aload_n C hl (kx := 0) rfl rfl dX12_cheapBy_5 ?_
  refine r_iload_n C hl (kx := 1) rfl rfl dX12_cheapBy_6 ?_
  obtain ⟨r4, μ3, e5, hf⟩ := bn_some hf
  refine r_callVv C hw (K := [(0, x1)]) ok12 t0 (c_X12_isPlace l D b t0 e5) mi_X12_isPlace in_X12_isPlace se_X12_isPlace kl_12_335 rfl rfl (lvh_sz hl) (by decide) (Kr := []) rfl (Nat.le_of_ble_eq_true rfl) dX12_cheapBy_7 (fun H locs hw => ?_)
  refine r_if_ne C (tgt := 16) (by decide) dX12_cheapBy_10 (fun c6 => ?_) (fun c6 => ?_)
  · have hf := ite_f c6 hf
    refine r_iload_n C hl (kx := 2) rfl rfl dX12_cheapBy_16 ?_
    refine r_if_ge C (tgt := 23) (by decide) dX12_cheapBy_17 (fun c7 => ?_) (fun c7 => ?_)
    · have hf := ite_t c7 hf
      refine r_aload_n C hl (kx := 0) rfl rfl dX12_cheapBy_23 ?_
      refine r_iload_n C hl (kx := 1) rfl rfl dX12_cheapBy_24 ?_
      obtain ⟨r9, μ8, e10, hf⟩ := bn_some hf
      refine r_callVv C hw (K := [(0, x1)]) ok12 t0 (c_X12_laysCost l D b t0 e10) mi_X12_laysCost in_X12_laysCost se_X12_laysCost kl_12_356 rfl rfl (lvh_sz hl) (by decide) (Kr := []) rfl (Nat.le_of_ble_eq_true rfl) dX12_cheapBy_25 (fun H locs hw => ?_)
      refine r_pop C rfl dX12_cheapBy_28 ?_
      refine r_aload_n C hl (kx := 0) rfl rfl dX12_cheapBy_29 ?_
      refine r_iload_n C hl (kx := 2) rfl rfl dX12_cheapBy_30 ?_
      obtain ⟨r12, μ11, e13, hf⟩ := bn_some hf
      refine r_callVv C hw (K := [(0, x2)]) ok12 t0 (c_X12_laneAt l D b t0 e13) mi_X12_laneAt in_X12_laneAt se_X12_laneAt kl_12_359 rfl rfl (lvh_sz hl) (by decide) (Kr := []) rfl (Nat.le_of_ble_eq_true rfl) dX12_cheapBy_31 (fun H locs hw => ?_)
      exact r_iret C hw hf dX12_cheapBy_34
    · have hf := ite_f c7 hf
      refine r_bipush C (by decide) dX12_cheapBy_20 ?_
      exact r_iret C hw hf dX12_cheapBy_22
  · have hf := ite_t c6 hf
    refine r_bipush C (by decide) dX12_cheapBy_13 ?_
    exact r_iret C hw hf dX12_cheapBy_15
theorem c_X12_cheapBy (l : Launch) (D : Ds) (b : Nat) {x0 x1 x2 : Int} {μ μ' : Mem} {r : Int} (t0 : isK x0 12) (hf : f_X12_cheapBy x0 x1 x2 μ = some (r, μ')) : Ctr l D b yX12_cheapBy cX12_cheapBy 3 (some .int) 7 [(2, x0), (0, x1), (0, x2)] μ (some (.int (jI r))) μ' := by
  refine Ctr.of (by decide +kernel) (Nat.le_of_ble_eq_true rfl) ?_
  intro p e s m below meth c C hw ls hl
  exact w_X12_cheapBy_0 C hf t0 hw hl
set_option maxHeartbeats 4000000 in
set_option maxRecDepth 20000 in
theorem w_X12_areJoined_94 (C : Cx p s m args meth c D b cX12_areJoined 7 RX12 (some .boolean)) {r : Int} {μ' : Mem} (k4 : Int → Int → Int → Int → Mem → Option (Int × Mem)) (h4 : ∀ (x0 x1 x2 x3 : Int) (μ : Mem) (H : Heap) (locs : List Loc) (ls : Array Slot), k4 x0 x1 x2 x3 μ = some (r, μ') → isK x0 12 → Hw D b μ s.heap H locs → lvh b ls 7 [(0, 2, x0), (1, 0, x1), (2, 0, x2), (3, 0, x3)] → W p l e (rm 1) s m args below meth c H locs 0 0 (QM below args s D b (some (.int (jI r))) μ') (F0 m 4 ls [])) {x0 x1 x2 s0 : Int} {μ : Mem} {H : Heap} {locs : List Loc} {ls : Array Slot} (hf : f_X12_areJoined_j94 k4 x0 x1 x2 s0 μ = some (r, μ')) (t0 : isK x0 12) (hw : Hw D b μ s.heap H locs) (hl : lvh b ls 7 [(0, 2, x0), (1, 0, x1), (2, 0, x2)]) : W p l e (rm 1) s m args below meth c H locs 0 0 (QM below args s D b (some (.int (jI r))) μ') (F0 m 94 ls [.int (jI s0)]) := by
  unfold f_X12_areJoined_j94 at hf
  refine r_istore_n C hl (by decide) (L' := [(3, 0, s0), (0, 2, x0), (1, 0, x1), (2, 0, x2)]) rfl rfl dX12_areJoined_94 (fun ls hl => ?_)
  refine r_goto C (tgt := 4) (by decide) dX12_areJoined_95 ?_
  exact h4 _ _ _ _ _ _ _ _ hf t0 hw (lvh_sub hl [1, 2, 3, 0] rfl)
set_option maxHeartbeats 4000000 in
set_option maxRecDepth 20000 in
theorem w_X12_areJoined_77 (C : Cx p s m args meth c D b cX12_areJoined 7 RX12 (some .boolean)) {r : Int} {μ' : Mem} (k4 : Int → Int → Int → Int → Mem → Option (Int × Mem)) (h4 : ∀ (x0 x1 x2 x3 : Int) (μ : Mem) (H : Heap) (locs : List Loc) (ls : Array Slot), k4 x0 x1 x2 x3 μ = some (r, μ') → isK x0 12 → Hw D b μ s.heap H locs → lvh b ls 7 [(0, 2, x0), (1, 0, x1), (2, 0, x2), (3, 0, x3)] → W p l e (rm 1) s m args below meth c H locs 0 0 (QM below args s D b (some (.int (jI r))) μ') (F0 m 4 ls [])) (k14 : Int → Int → Int → Int → Int → Mem → Option (Int × Mem)) (h14 : ∀ (x0 x1 x2 x4 x5 : Int) (μ : Mem) (H : Heap) (locs : List Loc) (ls : Array Slot), k14 x0 x1 x2 x4 x5 μ = some (r, μ') → isK x0 12 → Hw D b μ s.heap H locs → lvh b ls 7 [(0, 2, x0), (1, 0, x1), (2, 0, x2), (4, 0, x4), (5, 0, x5)] → W p l e (rm 1) s m args below meth c H locs 0 0 (QM below args s D b (some (.int (jI r))) μ') (F0 m 14 ls [])) {x0 x1 x2 x4 x5 : Int} {μ : Mem} {H : Heap} {locs : List Loc} {ls : Array Slot} (hf : f_X12_areJoined_j77 k4 k14 x0 x1 x2 x4 x5 μ = some (r, μ')) (t0 : isK x0 12) (hw : Hw D b μ s.heap H locs) (hl : lvh b ls 7 [(0, 2, x0), (1, 0, x1), (2, 0, x2), (4, 0, x4), (5, 0, x5)]) : W p l e (rm 1) s m args below meth c H locs 0 0 (QM below args s D b (some (.int (jI r))) μ') (F0 m 77 ls []) := by
  unfold f_X12_areJoined_j77 at hf
  refine r_iinc C hl (kx := 4) rfl (by decide) (L' := [(5, 0, (x5 + 1)), (0, 2, x0), (1, 0, x1), (2, 0, x2), (4, 0, x4)]) rfl dX12_areJoined_77 (fun ls hl => ?_)
  refine r_goto C (tgt := 14) (by decide) dX12_areJoined_80 ?_
  exact h14 _ _ _ _ _ _ _ _ _ hf t0 hw (lvh_sub hl [1, 2, 3, 4, 0] rfl)
set_option maxHeartbeats 4000000 in
set_option maxRecDepth 20000 in
theorem w_X12_areJoined_14 (C : Cx p s m args meth c D b cX12_areJoined 7 RX12 (some .boolean)) {r : Int} {μ' : Mem} (k4 : Int → Int → Int → Int → Mem → Option (Int × Mem)) (h4 : ∀ (x0 x1 x2 x3 : Int) (μ : Mem) (H : Heap) (locs : List Loc) (ls : Array Slot), k4 x0 x1 x2 x3 μ = some (r, μ') → isK x0 12 → Hw D b μ s.heap H locs → lvh b ls 7 [(0, 2, x0), (1, 0, x1), (2, 0, x2), (3, 0, x3)] → W p l e (rm 1) s m args below meth c H locs 0 0 (QM below args s D b (some (.int (jI r))) μ') (F0 m 4 ls [])) : ∀ (n : Nat) (x0 x1 x2 x4 x5 : Int) (μ : Mem) (H : Heap) (locs : List Loc) (ls : Array Slot), f_X12_areJoined_w14 k4 n x0 x1 x2 x4 x5 μ = some (r, μ') → isK x0 12 → Hw D b μ s.heap H locs → lvh b ls 7 [(0, 2, x0), (1, 0, x1), (2, 0, x2), (4, 0, x4), (5, 0, x5)] → W p l e (rm 1) s m args below meth c H locs 0 0 (QM below args s D b (some (.int (jI r))) μ') (F0 m 14 ls []) := by
  intro n
  induction n with
  | zero => intro x0 x1 x2 x4 x5 μ H locs ls hf; cases hf
  | succ n ih =>
    intro x0 x1 x2 x4 x5 μ H locs ls hf t0 hw hl
    rw [f_X12_areJoined_w14.eq_2] at hf
    refine r_iload C hl (kx := 4) rfl dX12_areJoined_14 ?_
    refine r_aload_n C hl (kx := 0) rfl rfl dX12_areJoined_16 ?_
    refine gf_12_13 C hw t0 dX12_areJoined_17 ?_
    refine r_iconst C dX12_areJoined_20 ?_
    refine r_iald C hw (n := 3300) (ow_12_1 t0) (j := 2) (by decide) (by decide) (by decide) dX12_areJoined_21 ?_
    refine r_icmp_ge C (tgt := 83) (by decide) dX12_areJoined_22 (fun c1 => ?_) (fun c1 => ?_)
    · have hf := ite_t c1 hf
      refine r_iload_n C hl (kx := 2) rfl rfl dX12_areJoined_83 ?_
      refine r_iload C hl (kx := 3) rfl dX12_areJoined_84 ?_
      refine r_icmp_eq C (tgt := 93) (by decide) dX12_areJoined_86 (fun c2 => ?_) (fun c2 => ?_)
      · have hf := ite_t c2 hf
        refine r_iconst C dX12_areJoined_93 ?_
        exact w_X12_areJoined_94 C _ h4 hf t0 hw (lvh_sub hl [0, 1, 2] rfl)
      · have hf := ite_f c2 hf
        refine r_iconst C dX12_areJoined_89 ?_
        refine r_goto C (tgt := 94) (by decide) dX12_areJoined_90 ?_
        exact w_X12_areJoined_94 C _ h4 hf t0 hw (lvh_sub hl [0, 1, 2] rfl)
    · have hf := ite_f c1 hf
      refine r_iload_n C hl (kx := 1) rfl rfl dX12_areJoined_25 ?_
      refine r_i2l C dX12_areJoined_26 ?_
      refine r_iload C hl (kx := 4) rfl dX12_areJoined_27 ?_
      obtain ⟨r4, μ3, e5, hf⟩ := bn_some hf
      refine r_callSv C hw (K := [(1, (nrm x1)), (0, x5)]) (c_X12_isIn l D b e5) mi_X12_isIn st_X12_isIn kl_12_322 rfl rfl (lvh_sz hl) (by decide) (Kr := []) rfl (Nat.le_of_ble_eq_true rfl) dX12_areJoined_29 (fun H locs hw => ?_)
      refine r_if_ne C (tgt := 38) (by decide) dX12_areJoined_32 (fun c6 => ?_) (fun c6 => ?_)
      · have hf := ite_f c6 hf
        refine r_iconst C dX12_areJoined_38 ?_
        refine r_aload_n C hl (kx := 0) rfl rfl dX12_areJoined_39 ?_
        refine gf_12_13 C hw t0 dX12_areJoined_40 ?_
        refine r_bipush C (by decide) dX12_areJoined_43 ?_
        refine r_iload C hl (kx := 4) rfl dX12_areJoined_45 ?_
        refine r_iadd C dX12_areJoined_47 ?_
        obtain ⟨g7, hf⟩ := gd_some hf
        refine r_iald C hw (n := 3300) (ow_12_1 t0) (j := (nrm (11 + x5))) rfl g7 (by decide) dX12_areJoined_48 ?_
        refine r_ishl C dX12_areJoined_49 ?_
        refine r_iconst C dX12_areJoined_50 ?_
        refine r_aload_n C hl (kx := 0) rfl rfl dX12_areJoined_51 ?_
        refine gf_12_13 C hw t0 dX12_areJoined_52 ?_
        refine r_bipush C (by decide) dX12_areJoined_55 ?_
        refine r_iload C hl (kx := 4) rfl dX12_areJoined_57 ?_
        refine r_iadd C dX12_areJoined_59 ?_
        obtain ⟨g8, hf⟩ := gd_some hf
        refine r_iald C hw (n := 3300) (ow_12_1 t0) (j := (nrm (20 + x5))) rfl g8 (by decide) dX12_areJoined_60 ?_
        refine r_ishl C dX12_areJoined_61 ?_
        refine r_ior C dX12_areJoined_62 ?_
        obtain ⟨v9, e10, hf⟩ := nm_some hf
        refine top_i e10 ?_
        refine r_istore C hl (by decide) (L' := [(6, 0, v9), (0, 2, x0), (1, 0, x1), (2, 0, x2), (4, 0, x4), (5, 0, x5)]) rfl dX12_areJoined_63 (fun ls hl => ?_)
        refine r_iload_n C hl (kx := 3) rfl rfl dX12_areJoined_65 ?_
        refine r_iload C hl (kx := 0) rfl dX12_areJoined_66 ?_
        refine r_iand C dX12_areJoined_68 ?_
        refine r_if_eq C (tgt := 77) (by decide) dX12_areJoined_69 (fun c11 => ?_) (fun c11 => ?_)
        · have hf := ite_t c11 hf
          exact w_X12_areJoined_77 C _ h4 _ ih hf t0 hw (lvh_sub hl [1, 2, 3, 4, 5] rfl)
        · have hf := ite_f c11 hf
          refine r_iload_n C hl (kx := 3) rfl rfl dX12_areJoined_72 ?_
          refine r_iload C hl (kx := 0) rfl dX12_areJoined_73 ?_
          refine r_ior C dX12_areJoined_75 ?_
          obtain ⟨v12, e13, hf⟩ := nm_some hf
          refine top_i e13 ?_
          refine r_istore_n C hl (by decide) (L' := [(2, 0, v12), (6, 0, v9), (0, 2, x0), (1, 0, x1), (4, 0, x4), (5, 0, x5)]) rfl rfl dX12_areJoined_76 (fun ls hl => ?_)
          exact w_X12_areJoined_77 C _ h4 _ ih hf t0 hw (lvh_sub hl [2, 3, 0, 4, 5] rfl)
      · have hf := ite_t c6 hf
        refine r_goto C (tgt := 77) (by decide) dX12_areJoined_35 ?_
        exact w_X12_areJoined_77 C _ h4 _ ih hf t0 hw (lvh_sub hl [0, 1, 2, 3, 4] rfl)
set_option maxHeartbeats 4000000 in
set_option maxRecDepth 20000 in
theorem w_X12_areJoined_4 (C : Cx p s m args meth c D b cX12_areJoined 7 RX12 (some .boolean)) {r : Int} {μ' : Mem} : ∀ (n : Nat) (x0 x1 x2 x3 : Int) (μ : Mem) (H : Heap) (locs : List Loc) (ls : Array Slot), f_X12_areJoined_w4 n x0 x1 x2 x3 μ = some (r, μ') → isK x0 12 → Hw D b μ s.heap H locs → lvh b ls 7 [(0, 2, x0), (1, 0, x1), (2, 0, x2), (3, 0, x3)] → W p l e (rm 1) s m args below meth c H locs 0 0 (QM below args s D b (some (.int (jI r))) μ') (F0 m 4 ls []) := by
  intro n
  induction n with
  | zero => intro x0 x1 x2 x3 μ H locs ls hf; cases hf
  | succ n ih =>
    intro x0 x1 x2 x3 μ H locs ls hf t0 hw hl
    rw [f_X12_areJoined_w4.eq_2] at hf
    refine r_iload_n C hl (kx := 3) rfl rfl dX12_areJoined_4 ?_
    refine r_if_eq C (tgt := 98) (by decide) dX12_areJoined_5 (fun c1 => ?_) (fun c1 => ?_)
    · have hf := ite_t c1 hf
      refine r_iload_n C hl (kx := 2) rfl rfl dX12_areJoined_98 ?_
      refine r_iconst C dX12_areJoined_99 ?_
      refine r_aload_n C hl (kx := 0) rfl rfl dX12_areJoined_100 ?_
      refine gf_12_13 C hw t0 dX12_areJoined_101 ?_
      refine r_iconst C dX12_areJoined_104 ?_
      refine r_iald C hw (n := 3300) (ow_12_1 t0) (j := 1) (by decide) (by decide) (by decide) dX12_areJoined_105 ?_
      refine r_ishl C dX12_areJoined_106 ?_
      refine r_iconst C dX12_areJoined_107 ?_
      refine r_isub C dX12_areJoined_108 ?_
      refine r_icmp_ne C (tgt := 116) (by decide) dX12_areJoined_109 (fun c2 => ?_) (fun c2 => ?_)
      · have hf := ite_f c2 hf
        refine r_iconst C dX12_areJoined_116 ?_
        exact r_zret C hw (by decide) hf dX12_areJoined_117
      · have hf := ite_t c2 hf
        refine r_iconst C dX12_areJoined_112 ?_
        refine r_goto C (tgt := 117) (by decide) dX12_areJoined_113 ?_
        exact r_zret C hw (by decide) hf dX12_areJoined_117
    · have hf := ite_f c1 hf
      refine r_iload_n C hl (kx := 2) rfl rfl dX12_areJoined_8 ?_
      refine r_istore C hl (by decide) (L' := [(4, 0, x2), (0, 2, x0), (1, 0, x1), (2, 0, x2), (3, 0, x3)]) rfl dX12_areJoined_9 (fun ls hl => ?_)
      refine r_iconst C dX12_areJoined_11 ?_
      refine r_istore C hl (by decide) (L' := [(5, 0, 0), (4, 0, x2), (0, 2, x0), (1, 0, x1), (2, 0, x2), (3, 0, x3)]) rfl dX12_areJoined_12 (fun ls hl => ?_)
      exact w_X12_areJoined_14 C _ ih FU _ _ _ _ _ _ _ _ _ hf t0 hw (lvh_sub hl [2, 3, 4, 1, 0] rfl)
set_option maxHeartbeats 4000000 in
set_option maxRecDepth 20000 in
theorem w_X12_areJoined_0 (C : Cx p s m args meth c D b cX12_areJoined 7 RX12 (some .boolean)) {r : Int} {μ' : Mem} {x0 x1 : Int} {μ : Mem} {H : Heap} {locs : List Loc} {ls : Array Slot} (hf : f_X12_areJoined x0 x1 μ = some (r, μ')) (t0 : isK x0 12) (hw : Hw D b μ s.heap H locs) (hl : lvh b ls 7 [(0, 2, x0), (1, 0, x1)]) : W p l e (rm 1) s m args below meth c H locs 0 0 (QM below args s D b (some (.int (jI r))) μ') (F0 m 0 ls []) := by
  unfold f_X12_areJoined at hf
  refine r_iconst C dX12_areJoined_0 ?_
  refine r_istore_n C hl (by decide) (L' := [(2, 0, 1), (0, 2, x0), (1, 0, x1)]) rfl rfl dX12_areJoined_1 (fun ls hl => ?_)
  refine r_iconst C dX12_areJoined_2 ?_
  refine r_istore_n C hl (by decide) (L' := [(3, 0, 1), (2, 0, 1), (0, 2, x0), (1, 0, x1)]) rfl rfl dX12_areJoined_3 (fun ls hl => ?_)
  exact w_X12_areJoined_4 C FU _ _ _ _ _ _ _ _ hf t0 hw (lvh_sub hl [2, 3, 1, 0] rfl)
theorem c_X12_areJoined (l : Launch) (D : Ds) (b : Nat) {x0 x1 : Int} {μ μ' : Mem} {r : Int} (t0 : isK x0 12) (hf : f_X12_areJoined x0 x1 μ = some (r, μ')) : Ctr l D b yX12_areJoined cX12_areJoined 7 (some .boolean) 1 [(2, x0), (0, x1)] μ (some (.int (jI r))) μ' := by
  refine Ctr.of (by decide +kernel) (Nat.le_of_ble_eq_true rfl) ?_
  intro p e s m below meth c C hw ls hl
  exact w_X12_areJoined_0 C hf t0 hw hl
set_option maxHeartbeats 4000000 in
set_option maxRecDepth 20000 in
theorem w_X12_joins_135 (C : Cx p s m args meth c D b cX12_joins 7 RX12 (some .int)) {r : Int} {μ' : Mem} (k27 : Int → Int → Int → Int → Int → Mem → Option (Int × Mem)) (h27 : ∀ (x0 x1 x2 x3 x4 : Int) (μ : Mem) (H : Heap) (locs : List Loc) (ls : Array Slot), k27 x0 x1 x2 x3 x4 μ = some (r, μ') → isK x0 12 → Hw D b μ s.heap H locs → lvh b ls 7 [(0, 2, x0), (1, 0, x1), (2, 0, x2), (3, 0, x3), (4, 0, x4)] → W p l e (rm 5) s m args below meth c H locs 0 0 (QM below args s D b (some (.int (jI r))) μ') (F0 m 27 ls [])) {x0 x1 x2 x3 x4 : Int} {μ : Mem} {H : Heap} {locs : List Loc} {ls : Array Slot} (hf : f_X12_joins_j135 k27 x0 x1 x2 x3 x4 μ = some (r, μ')) (t0 : isK x0 12) (hw : Hw D b μ s.heap H locs) (hl : lvh b ls 7 [(0, 2, x0), (1, 0, x1), (2, 0, x2), (3, 0, x3), (4, 0, x4)]) : W p l e (rm 5) s m args below meth c H locs 0 0 (QM below args s D b (some (.int (jI r))) μ') (F0 m 135 ls []) := by
  unfold f_X12_joins_j135 at hf
  refine r_iinc C hl (kx := 4) rfl (by decide) (L' := [(4, 0, (x4 + 1)), (0, 2, x0), (1, 0, x1), (2, 0, x2), (3, 0, x3)]) rfl dX12_joins_135 (fun ls hl => ?_)
  refine r_goto C (tgt := 27) (by decide) dX12_joins_138 ?_
  exact h27 _ _ _ _ _ _ _ _ _ hf t0 hw (lvh_sub hl [1, 2, 3, 4, 0] rfl)
set_option maxHeartbeats 4000000 in
set_option maxRecDepth 20000 in
theorem w_X12_joins_105 (C : Cx p s m args meth c D b cX12_joins 7 RX12 (some .int)) {r : Int} {μ' : Mem} (k27 : Int → Int → Int → Int → Int → Mem → Option (Int × Mem)) (h27 : ∀ (x0 x1 x2 x3 x4 : Int) (μ : Mem) (H : Heap) (locs : List Loc) (ls : Array Slot), k27 x0 x1 x2 x3 x4 μ = some (r, μ') → isK x0 12 → Hw D b μ s.heap H locs → lvh b ls 7 [(0, 2, x0), (1, 0, x1), (2, 0, x2), (3, 0, x3), (4, 0, x4)] → W p l e (rm 5) s m args below meth c H locs 0 0 (QM below args s D b (some (.int (jI r))) μ') (F0 m 27 ls [])) (k46 : Int → Int → Int → Int → Int → Int → Int → Mem → Option (Int × Mem)) (h46 : ∀ (x0 x1 x2 x3 x4 x5 x6 : Int) (μ : Mem) (H : Heap) (locs : List Loc) (ls : Array Slot), k46 x0 x1 x2 x3 x4 x5 x6 μ = some (r, μ') → isK x0 12 → Hw D b μ s.heap H locs → lvh b ls 7 [(0, 2, x0), (1, 0, x1), (2, 0, x2), (3, 0, x3), (4, 0, x4), (5, 0, x5), (6, 0, x6)] → W p l e (rm 5) s m args below meth c H locs 0 0 (QM below args s D b (some (.int (jI r))) μ') (F0 m 46 ls [])) {x0 x1 x2 x3 x4 x5 x6 : Int} {μ : Mem} {H : Heap} {locs : List Loc} {ls : Array Slot} (hf : f_X12_joins_j105 k27 k46 x0 x1 x2 x3 x4 x5 x6 μ = some (r, μ')) (t0 : isK x0 12) (hw : Hw D b μ s.heap H locs) (hl : lvh b ls 7 [(0, 2, x0), (1, 0, x1), (2, 0, x2), (3, 0, x3), (4, 0, x4), (5, 0, x5), (6, 0, x6)]) : W p l e (rm 5) s m args below meth c H locs 0 0 (QM below args s D b (some (.int (jI r))) μ') (F0 m 105 ls []) := by
  unfold f_X12_joins_j105 at hf
  refine r_iinc C hl (kx := 6) rfl (by decide) (L' := [(6, 0, (x6 + 1)), (0, 2, x0), (1, 0, x1), (2, 0, x2), (3, 0, x3), (4, 0, x4), (5, 0, x5)]) rfl dX12_joins_105 (fun ls hl => ?_)
  refine r_goto C (tgt := 46) (by decide) dX12_joins_108 ?_
  exact h46 _ _ _ _ _ _ _ _ _ _ _ hf t0 hw (lvh_sub hl [1, 2, 3, 4, 5, 6, 0] rfl)
set_option maxHeartbeats 4000000 in
set_option maxRecDepth 20000 in
theorem w_X12_joins_103 (C : Cx p s m args meth c D b cX12_joins 7 RX12 (some .int)) {r : Int} {μ' : Mem} (k27 : Int → Int → Int → Int → Int → Mem → Option (Int × Mem)) (h27 : ∀ (x0 x1 x2 x3 x4 : Int) (μ : Mem) (H : Heap) (locs : List Loc) (ls : Array Slot), k27 x0 x1 x2 x3 x4 μ = some (r, μ') → isK x0 12 → Hw D b μ s.heap H locs → lvh b ls 7 [(0, 2, x0), (1, 0, x1), (2, 0, x2), (3, 0, x3), (4, 0, x4)] → W p l e (rm 5) s m args below meth c H locs 0 0 (QM below args s D b (some (.int (jI r))) μ') (F0 m 27 ls [])) (k46 : Int → Int → Int → Int → Int → Int → Int → Mem → Option (Int × Mem)) (h46 : ∀ (x0 x1 x2 x3 x4 x5 x6 : Int) (μ : Mem) (H : Heap) (locs : List Loc) (ls : Array Slot), k46 x0 x1 x2 x3 x4 x5 x6 μ = some (r, μ') → isK x0 12 → Hw D b μ s.heap H locs → lvh b ls 7 [(0, 2, x0), (1, 0, x1), (2, 0, x2), (3, 0, x3), (4, 0, x4), (5, 0, x5), (6, 0, x6)] → W p l e (rm 5) s m args below meth c H locs 0 0 (QM below args s D b (some (.int (jI r))) μ') (F0 m 46 ls [])) {x0 x1 x2 x3 x4 x6 s0 : Int} {μ : Mem} {H : Heap} {locs : List Loc} {ls : Array Slot} (hf : f_X12_joins_j103 k27 k46 x0 x1 x2 x3 x4 x6 s0 μ = some (r, μ')) (t0 : isK x0 12) (hw : Hw D b μ s.heap H locs) (hl : lvh b ls 7 [(0, 2, x0), (1, 0, x1), (2, 0, x2), (3, 0, x3), (4, 0, x4), (6, 0, x6)]) : W p l e (rm 5) s m args below meth c H locs 0 0 (QM below args s D b (some (.int (jI r))) μ') (F0 m 103 ls [.int (jI s0)]) := by
  unfold f_X12_joins_j103 at hf
  refine r_istore C hl (by decide) (L' := [(5, 0, s0), (0, 2, x0), (1, 0, x1), (2, 0, x2), (3, 0, x3), (4, 0, x4), (6, 0, x6)]) rfl dX12_joins_103 (fun ls hl => ?_)
  exact w_X12_joins_105 C _ h27 _ h46 hf t0 hw (lvh_sub hl [1, 2, 3, 4, 5, 0, 6] rfl)
set_option maxHeartbeats 4000000 in
set_option maxRecDepth 20000 in
theorem w_X12_joins_88 (C : Cx p s m args meth c D b cX12_joins 7 RX12 (some .int)) {r : Int} {μ' : Mem} (k27 : Int → Int → Int → Int → Int → Mem → Option (Int × Mem)) (h27 : ∀ (x0 x1 x2 x3 x4 : Int) (μ : Mem) (H : Heap) (locs : List Loc) (ls : Array Slot), k27 x0 x1 x2 x3 x4 μ = some (r, μ') → isK x0 12 → Hw D b μ s.heap H locs → lvh b ls 7 [(0, 2, x0), (1, 0, x1), (2, 0, x2), (3, 0, x3), (4, 0, x4)] → W p l e (rm 5) s m args below meth c H locs 0 0 (QM below args s D b (some (.int (jI r))) μ') (F0 m 27 ls [])) (k46 : Int → Int → Int → Int → Int → Int → Int → Mem → Option (Int × Mem)) (h46 : ∀ (x0 x1 x2 x3 x4 x5 x6 : Int) (μ : Mem) (H : Heap) (locs : List Loc) (ls : Array Slot), k46 x0 x1 x2 x3 x4 x5 x6 μ = some (r, μ') → isK x0 12 → Hw D b μ s.heap H locs → lvh b ls 7 [(0, 2, x0), (1, 0, x1), (2, 0, x2), (3, 0, x3), (4, 0, x4), (5, 0, x5), (6, 0, x6)] → W p l e (rm 5) s m args below meth c H locs 0 0 (QM below args s D b (some (.int (jI r))) μ') (F0 m 46 ls [])) {x0 x1 x2 x3 x4 x6 : Int} {μ : Mem} {H : Heap} {locs : List Loc} {ls : Array Slot} (hf : f_X12_joins_j88 k27 k46 x0 x1 x2 x3 x4 x6 μ = some (r, μ')) (t0 : isK x0 12) (hw : Hw D b μ s.heap H locs) (hl : lvh b ls 7 [(0, 2, x0), (1, 0, x1), (2, 0, x2), (3, 0, x3), (4, 0, x4), (6, 0, x6)]) : W p l e (rm 5) s m args below meth c H locs 0 0 (QM below args s D b (some (.int (jI r))) μ') (F0 m 88 ls []) := by
  unfold f_X12_joins_j88 at hf
  refine r_ldcw C (z := 268435456) (by decide) kw1757 dX12_joins_88 ?_
  refine r_goto C (tgt := 103) (by decide) dX12_joins_91 ?_
  exact w_X12_joins_103 C _ h27 _ h46 hf t0 hw (lvh_sub hl [0, 1, 2, 3, 4, 5] rfl)
set_option maxHeartbeats 4000000 in
set_option maxRecDepth 20000 in
theorem w_X12_joins_46 (C : Cx p s m args meth c D b cX12_joins 7 RX12 (some .int)) {r : Int} {μ' : Mem} (k27 : Int → Int → Int → Int → Int → Mem → Option (Int × Mem)) (h27 : ∀ (x0 x1 x2 x3 x4 : Int) (μ : Mem) (H : Heap) (locs : List Loc) (ls : Array Slot), k27 x0 x1 x2 x3 x4 μ = some (r, μ') → isK x0 12 → Hw D b μ s.heap H locs → lvh b ls 7 [(0, 2, x0), (1, 0, x1), (2, 0, x2), (3, 0, x3), (4, 0, x4)] → W p l e (rm 5) s m args below meth c H locs 0 0 (QM below args s D b (some (.int (jI r))) μ') (F0 m 27 ls [])) : ∀ (n : Nat) (x0 x1 x2 x3 x4 x5 x6 : Int) (μ : Mem) (H : Heap) (locs : List Loc) (ls : Array Slot), f_X12_joins_w46 k27 n x0 x1 x2 x3 x4 x5 x6 μ = some (r, μ') → isK x0 12 → Hw D b μ s.heap H locs → lvh b ls 7 [(0, 2, x0), (1, 0, x1), (2, 0, x2), (3, 0, x3), (4, 0, x4), (5, 0, x5), (6, 0, x6)] → W p l e (rm 5) s m args below meth c H locs 0 0 (QM below args s D b (some (.int (jI r))) μ') (F0 m 46 ls []) := by
  intro n
  induction n with
  | zero => intro x0 x1 x2 x3 x4 x5 x6 μ H locs ls hf; cases hf
  | succ n ih =>
    intro x0 x1 x2 x3 x4 x5 x6 μ H locs ls hf t0 hw hl
    rw [f_X12_joins_w46.eq_2] at hf
    refine r_iload C hl (kx := 6) rfl dX12_joins_46 ?_
    refine r_aload_n C hl (kx := 0) rfl rfl dX12_joins_48 ?_
    refine gf_12_13 C hw t0 dX12_joins_49 ?_
    refine r_iconst C dX12_joins_52 ?_
    refine r_iald C hw (n := 3300) (ow_12_1 t0) (j := 2) (by decide) (by decide) (by decide) dX12_joins_53 ?_
    refine r_icmp_ge C (tgt := 111) (by decide) dX12_joins_54 (fun c1 => ?_) (fun c1 => ?_)
    · have hf := ite_t c1 hf
      refine r_iload C hl (kx := 5) rfl dX12_joins_111 ?_
      refine r_iload_n C hl (kx := 3) rfl rfl dX12_joins_113 ?_
      refine r_icmp_ge C (tgt := 135) (by decide) dX12_joins_114 (fun c2 => ?_) (fun c2 => ?_)
      · have hf := ite_t c2 hf
        exact w_X12_joins_135 C _ h27 hf t0 hw (lvh_sub hl [0, 1, 2, 3, 4] rfl)
      · have hf := ite_f c2 hf
        refine r_aload_n C hl (kx := 0) rfl rfl dX12_joins_117 ?_
        refine r_iload C hl (kx := 4) rfl dX12_joins_118 ?_
        obtain ⟨r4, μ3, e5, hf⟩ := bn_some hf
        refine r_callVv C hw (K := [(0, x4)]) ok12 t0 (c_X12_areJoined l D b t0 e5) mi_X12_areJoined in_X12_areJoined se_X12_areJoined kl_12_362 rfl rfl (lvh_sz hl) (by decide) (Kr := []) rfl (Nat.le_of_ble_eq_true rfl) dX12_joins_120 (fun H locs hw => ?_)
        refine r_if_ne C (tgt := 129) (by decide) dX12_joins_123 (fun c6 => ?_) (fun c6 => ?_)
        · have hf := ite_f c6 hf
          refine r_iload C hl (kx := 4) rfl dX12_joins_129 ?_
          refine r_istore_n C hl (by decide) (L' := [(2, 0, x4), (0, 2, x0), (1, 0, x1), (3, 0, x3), (4, 0, x4), (5, 0, x5), (6, 0, x6)]) rfl rfl dX12_joins_131 (fun ls hl => ?_)
          refine r_iload C hl (kx := 5) rfl dX12_joins_132 ?_
          refine r_istore_n C hl (by decide) (L' := [(3, 0, x5), (2, 0, x4), (0, 2, x0), (1, 0, x1), (4, 0, x4), (5, 0, x5), (6, 0, x6)]) rfl rfl dX12_joins_134 (fun ls hl => ?_)
          exact w_X12_joins_135 C _ h27 hf t0 hw (lvh_sub hl [2, 3, 1, 0, 4] rfl)
        · have hf := ite_t c6 hf
          refine r_goto C (tgt := 135) (by decide) dX12_joins_126 ?_
          exact w_X12_joins_135 C _ h27 hf t0 hw (lvh_sub hl [0, 1, 2, 3, 4] rfl)
    · have hf := ite_f c1 hf
      refine r_iload C hl (kx := 4) rfl dX12_joins_57 ?_
      refine r_i2l C dX12_joins_59 ?_
      refine r_iload C hl (kx := 6) rfl dX12_joins_60 ?_
      obtain ⟨r8, μ7, e9, hf⟩ := bn_some hf
      refine r_callSv C hw (K := [(1, (nrm x4)), (0, x6)]) (c_X12_isIn l D b e9) mi_X12_isIn st_X12_isIn kl_12_322 rfl rfl (lvh_sz hl) (by decide) (Kr := []) rfl (Nat.le_of_ble_eq_true rfl) dX12_joins_62 (fun H locs hw => ?_)
      refine r_if_eq C (tgt := 105) (by decide) dX12_joins_65 (fun c10 => ?_) (fun c10 => ?_)
      · have hf := ite_t c10 hf
        exact w_X12_joins_105 C _ h27 _ ih hf t0 hw (lvh_sub hl [0, 1, 2, 3, 4, 5, 6] rfl)
      · have hf := ite_f c10 hf
        refine r_iload C hl (kx := 5) rfl dX12_joins_68 ?_
        refine r_ldcw C (z := 268435456) (by decide) kw1757 dX12_joins_70 ?_
        refine r_icmp_eq C (tgt := 88) (by decide) dX12_joins_73 (fun c11 => ?_) (fun c11 => ?_)
        · have hf := ite_t c11 hf
          exact w_X12_joins_88 C _ h27 _ ih hf t0 hw (lvh_sub hl [0, 1, 2, 3, 4, 6] rfl)
        · have hf := ite_f c11 hf
          refine r_aload_n C hl (kx := 0) rfl rfl dX12_joins_76 ?_
          refine r_iload C hl (kx := 6) rfl dX12_joins_77 ?_
          obtain ⟨r13, μ12, e14, hf⟩ := bn_some hf
          refine r_callVv C hw (K := [(0, x6)]) ok12 t0 (c_X12_costOf l D b t0 e14) mi_X12_costOf in_X12_costOf se_X12_costOf kl_12_350 rfl rfl (lvh_sz hl) (by decide) (Kr := []) rfl (Nat.le_of_ble_eq_true rfl) dX12_joins_79 (fun H locs hw => ?_)
          refine r_ldcw C (z := 268435456) (by decide) kw1757 dX12_joins_82 ?_
          refine r_icmp_ne C (tgt := 94) (by decide) dX12_joins_85 (fun c15 => ?_) (fun c15 => ?_)
          · have hf := ite_f c15 hf
            refine r_iload C hl (kx := 5) rfl dX12_joins_94 ?_
            refine r_aload_n C hl (kx := 0) rfl rfl dX12_joins_96 ?_
            refine r_iload C hl (kx := 6) rfl dX12_joins_97 ?_
            obtain ⟨r17, μ16, e18, hf⟩ := bn_some hf
            refine r_callVv C hw (K := [(0, x6)]) ok12 t0 (c_X12_costOf l D b t0 e18) mi_X12_costOf in_X12_costOf se_X12_costOf kl_12_350 rfl rfl (lvh_sz hl) (by decide) (Kr := [(0, x5)]) rfl (Nat.le_of_ble_eq_true rfl) dX12_joins_99 (fun H locs hw => ?_)
            refine r_iadd C dX12_joins_102 ?_
            exact w_X12_joins_103 C _ h27 _ ih hf t0 hw (lvh_sub hl [0, 1, 2, 3, 4, 6] rfl)
          · have hf := ite_t c15 hf
            exact w_X12_joins_88 C _ h27 _ ih hf t0 hw (lvh_sub hl [0, 1, 2, 3, 4, 6] rfl)
set_option maxHeartbeats 4000000 in
set_option maxRecDepth 20000 in
theorem w_X12_joins_27 (C : Cx p s m args meth c D b cX12_joins 7 RX12 (some .int)) {r : Int} {μ' : Mem} : ∀ (n : Nat) (x0 x1 x2 x3 x4 : Int) (μ : Mem) (H : Heap) (locs : List Loc) (ls : Array Slot), f_X12_joins_w27 n x0 x1 x2 x3 x4 μ = some (r, μ') → isK x0 12 → Hw D b μ s.heap H locs → lvh b ls 7 [(0, 2, x0), (1, 0, x1), (2, 0, x2), (3, 0, x3), (4, 0, x4)] → W p l e (rm 5) s m args below meth c H locs 0 0 (QM below args s D b (some (.int (jI r))) μ') (F0 m 27 ls []) := by
  intro n
  induction n with
  | zero => intro x0 x1 x2 x3 x4 μ H locs ls hf; cases hf
  | succ n ih =>
    intro x0 x1 x2 x3 x4 μ H locs ls hf t0 hw hl
    rw [f_X12_joins_w27.eq_2] at hf
    refine r_iload C hl (kx := 4) rfl dX12_joins_27 ?_
    refine r_iconst C dX12_joins_29 ?_
    refine r_aload_n C hl (kx := 0) rfl rfl dX12_joins_30 ?_
    refine gf_12_13 C hw t0 dX12_joins_31 ?_
    refine r_iconst C dX12_joins_34 ?_
    refine r_iald C hw (n := 3300) (ow_12_1 t0) (j := 2) (by decide) (by decide) (by decide) dX12_joins_35 ?_
    refine r_ishl C dX12_joins_36 ?_
    refine r_icmp_ge C (tgt := 141) (by decide) dX12_joins_37 (fun c1 => ?_) (fun c1 => ?_)
    · have hf := ite_t c1 hf
      refine r_iload_n C hl (kx := 2) rfl rfl dX12_joins_141 ?_
      refine r_iconst C dX12_joins_142 ?_
      refine r_icmp_eq C (tgt := 151) (by decide) dX12_joins_143 (fun c2 => ?_) (fun c2 => ?_)
      · have hf := ite_t c2 hf
        refine r_iload_n C hl (kx := 2) rfl rfl dX12_joins_151 ?_
        refine r_goto C (tgt := 160) (by decide) dX12_joins_152 ?_
        exact r_iret C hw hf dX12_joins_160
      · have hf := ite_f c2 hf
        refine r_iload_n C hl (kx := 1) rfl rfl dX12_joins_146 ?_
        refine r_iconst C dX12_joins_147 ?_
        refine r_icmp_ne C (tgt := 155) (by decide) dX12_joins_148 (fun c3 => ?_) (fun c3 => ?_)
        · have hf := ite_f c3 hf
          refine r_iload_n C hl (kx := 3) rfl rfl dX12_joins_155 ?_
          refine r_sipush C (by decide) dX12_joins_156 ?_
          refine r_idiv C (by decide) dX12_joins_159 ?_
          exact r_iret C hw hf dX12_joins_160
        · have hf := ite_t c3 hf
          refine r_iload_n C hl (kx := 2) rfl rfl dX12_joins_151 ?_
          refine r_goto C (tgt := 160) (by decide) dX12_joins_152 ?_
          exact r_iret C hw hf dX12_joins_160
    · have hf := ite_f c1 hf
      refine r_iconst C dX12_joins_40 ?_
      refine r_istore C hl (by decide) (L' := [(5, 0, 0), (0, 2, x0), (1, 0, x1), (2, 0, x2), (3, 0, x3), (4, 0, x4)]) rfl dX12_joins_41 (fun ls hl => ?_)
      refine r_iconst C dX12_joins_43 ?_
      refine r_istore C hl (by decide) (L' := [(6, 0, 0), (5, 0, 0), (0, 2, x0), (1, 0, x1), (2, 0, x2), (3, 0, x3), (4, 0, x4)]) rfl dX12_joins_44 (fun ls hl => ?_)
      exact w_X12_joins_46 C _ ih FU _ _ _ _ _ _ _ _ _ _ _ hf t0 hw (lvh_sub hl [2, 3, 4, 5, 6, 1, 0] rfl)
set_option maxHeartbeats 4000000 in
set_option maxRecDepth 20000 in
theorem w_X12_joins_0 (C : Cx p s m args meth c D b cX12_joins 7 RX12 (some .int)) {r : Int} {μ' : Mem} {x0 x1 : Int} {μ : Mem} {H : Heap} {locs : List Loc} {ls : Array Slot} (hf : f_X12_joins x0 x1 μ = some (r, μ')) (t0 : isK x0 12) (hw : Hw D b μ s.heap H locs) (hl : lvh b ls 7 [(0, 2, x0), (1, 0, x1)]) : W p l e (rm 5) s m args below meth c H locs 0 0 (QM below args s D b (some (.int (jI r))) μ') (F0 m 0 ls []) := by
  unfold f_X12_joins at hf
  refine r_aload_n C hl (kx := 0) rfl rfl dX12_joins_0 ?_
  refine r_iconst C dX12_joins_1 ?_
  obtain ⟨μ1, e2, hf⟩ := nm_some hf
  refine pf_12_1 C hw t0 dX12_joins_2 (fun H locs hw => ?_)
  rw [← e2] at hw
  refine r_iload_n C hl (kx := 1) rfl rfl dX12_joins_5 ?_
  refine r_i2l C dX12_joins_6 ?_
  refine r_lconst C (z := 0) (by decide) dX12_joins_7 ?_
  refine r_lconst C (z := 1) (by decide) dX12_joins_8 ?_
  obtain ⟨r4, μ3, e5, hf⟩ := bn_some hf
  refine r_callSv C hw (K := [(1, (nrm x1)), (1, 0), (1, 1)]) (c_X12_within l D b e5) mi_X12_within st_X12_within kl_12_136 rfl rfl (lvh_sz hl) (by decide) (Kr := []) rfl (Nat.le_of_ble_eq_true rfl) dX12_joins_9 (fun H locs hw => ?_)
  refine r_if_ne C (tgt := 18) (by decide) dX12_joins_12 (fun c6 => ?_) (fun c6 => ?_)
  · have hf := ite_f c6 hf
    refine r_iconst C dX12_joins_18 ?_
    refine r_istore_n C hl (by decide) (L' := [(2, 0, (-1)), (0, 2, x0), (1, 0, x1)]) rfl rfl dX12_joins_19 (fun ls hl => ?_)
    refine r_ldcw C (z := 268435456) (by decide) kw1757 dX12_joins_20 ?_
    refine r_istore_n C hl (by decide) (L' := [(3, 0, 268435456), (2, 0, (-1)), (0, 2, x0), (1, 0, x1)]) rfl rfl dX12_joins_23 (fun ls hl => ?_)
    refine r_iconst C dX12_joins_24 ?_
    refine r_istore C hl (by decide) (L' := [(4, 0, 0), (3, 0, 268435456), (2, 0, (-1)), (0, 2, x0), (1, 0, x1)]) rfl dX12_joins_25 (fun ls hl => ?_)
    exact w_X12_joins_27 C FU _ _ _ _ _ _ _ _ _ hf t0 hw (lvh_sub hl [3, 4, 2, 1, 0] rfl)
  · have hf := ite_t c6 hf
    refine r_bipush C (by decide) dX12_joins_15 ?_
    exact r_iret C hw hf dX12_joins_17
theorem c_X12_joins (l : Launch) (D : Ds) (b : Nat) {x0 x1 : Int} {μ μ' : Mem} {r : Int} (t0 : isK x0 12) (hf : f_X12_joins x0 x1 μ = some (r, μ')) : Ctr l D b yX12_joins cX12_joins 7 (some .int) 5 [(2, x0), (0, x1)] μ (some (.int (jI r))) μ' := by
  refine Ctr.of (by decide +kernel) (Nat.le_of_ble_eq_true rfl) ?_
  intro p e s m below meth c C hw ls hl
  exact w_X12_joins_0 C hf t0 hw hl
set_option maxHeartbeats 4000000 in
set_option maxRecDepth 20000 in
theorem w_X12_shuts_92 (C : Cx p s m args meth c D b cX12_shuts 5 RX12 (some .int)) {r : Int} {μ' : Mem} (k31 : Int → Int → Int → Int → Int → Mem → Option (Int × Mem)) (h31 : ∀ (x0 x1 x2 x3 x4 : Int) (μ : Mem) (H : Heap) (locs : List Loc) (ls : Array Slot), k31 x0 x1 x2 x3 x4 μ = some (r, μ') → isK x0 12 → Hw D b μ s.heap H locs → lvh b ls 5 [(0, 2, x0), (1, 0, x1), (2, 0, x2), (3, 0, x3), (4, 0, x4)] → W p l e (rm 5) s m args below meth c H locs 0 0 (QM below args s D b (some (.int (jI r))) μ') (F0 m 31 ls [])) {x0 x1 x2 x3 x4 : Int} {μ : Mem} {H : Heap} {locs : List Loc} {ls : Array Slot} (hf : f_X12_shuts_j92 k31 x0 x1 x2 x3 x4 μ = some (r, μ')) (t0 : isK x0 12) (hw : Hw D b μ s.heap H locs) (hl : lvh b ls 5 [(0, 2, x0), (1, 0, x1), (2, 0, x2), (3, 0, x3), (4, 0, x4)]) : W p l e (rm 5) s m args below meth c H locs 0 0 (QM below args s D b (some (.int (jI r))) μ') (F0 m 92 ls []) := by
  unfold f_X12_shuts_j92 at hf
  refine r_iinc C hl (kx := 4) rfl (by decide) (L' := [(4, 0, (x4 + 1)), (0, 2, x0), (1, 0, x1), (2, 0, x2), (3, 0, x3)]) rfl dX12_shuts_92 (fun ls hl => ?_)
  refine r_goto C (tgt := 31) (by decide) dX12_shuts_95 ?_
  exact h31 _ _ _ _ _ _ _ _ _ hf t0 hw (lvh_sub hl [1, 2, 3, 4, 0] rfl)
set_option maxHeartbeats 4000000 in
set_option maxRecDepth 20000 in
theorem w_X12_shuts_64 (C : Cx p s m args meth c D b cX12_shuts 5 RX12 (some .int)) {r : Int} {μ' : Mem} (k31 : Int → Int → Int → Int → Int → Mem → Option (Int × Mem)) (h31 : ∀ (x0 x1 x2 x3 x4 : Int) (μ : Mem) (H : Heap) (locs : List Loc) (ls : Array Slot), k31 x0 x1 x2 x3 x4 μ = some (r, μ') → isK x0 12 → Hw D b μ s.heap H locs → lvh b ls 5 [(0, 2, x0), (1, 0, x1), (2, 0, x2), (3, 0, x3), (4, 0, x4)] → W p l e (rm 5) s m args below meth c H locs 0 0 (QM below args s D b (some (.int (jI r))) μ') (F0 m 31 ls [])) {x0 x1 x2 x3 x4 : Int} {μ : Mem} {H : Heap} {locs : List Loc} {ls : Array Slot} (hf : f_X12_shuts_j64 k31 x0 x1 x2 x3 x4 μ = some (r, μ')) (t0 : isK x0 12) (hw : Hw D b μ s.heap H locs) (hl : lvh b ls 5 [(0, 2, x0), (1, 0, x1), (2, 0, x2), (3, 0, x3), (4, 0, x4)]) : W p l e (rm 5) s m args below meth c H locs 0 0 (QM below args s D b (some (.int (jI r))) μ') (F0 m 64 ls []) := by
  unfold f_X12_shuts_j64 at hf
  refine r_aload_n C hl (kx := 0) rfl rfl dX12_shuts_64 ?_
  refine r_aload_n C hl (kx := 0) rfl rfl dX12_shuts_65 ?_
  obtain ⟨r2, μ1, e3, hf⟩ := bn_some hf
  refine r_callVv C hw (K := []) ok12 t0 (c_X12_everyLane l D b t0 e3) mi_X12_everyLane in_X12_everyLane se_X12_everyLane kl_12_329 rfl rfl (lvh_sz hl) (by decide) (Kr := [(2, x0)]) rfl (Nat.le_of_ble_eq_true rfl) dX12_shuts_66 (fun H locs hw => ?_)
  refine r_iload C hl (kx := 4) rfl dX12_shuts_69 ?_
  refine r_iconst C dX12_shuts_71 ?_
  refine r_ixor C dX12_shuts_72 ?_
  refine r_iand C dX12_shuts_73 ?_
  obtain ⟨r5, μ4, e6, hf⟩ := bn_some hf
  refine r_callVn C hw (K := [(0, (jand r2 (jxor x4 (-1))))]) ok12 t0 (c_X12_laysFar l D b t0 e6) mi_X12_laysFar in_X12_laysFar se_X12_laysFar kl_12_332 rfl rfl (lvh_sz hl) (by decide) (Kr := []) rfl (Nat.le_of_ble_eq_true rfl) dX12_shuts_74 (fun H locs hw => ?_)
  refine r_aload_n C hl (kx := 0) rfl rfl dX12_shuts_77 ?_
  refine gf_12_39 C hw t0 dX12_shuts_78 ?_
  refine r_iload_n C hl (kx := 1) rfl rfl dX12_shuts_81 ?_
  obtain ⟨g7, hf⟩ := gd_some hf
  refine r_iald C hw (n := 7) (ow_12_21 t0) (j := (nrm x1)) rfl g7 (by decide) dX12_shuts_82 ?_
  refine r_ldcw C (z := 268435456) (by decide) kw1757 dX12_shuts_83 ?_
  refine r_icmp_ne C (tgt := 92) (by decide) dX12_shuts_86 (fun c8 => ?_) (fun c8 => ?_)
  · have hf := ite_f c8 hf
    exact w_X12_shuts_92 C _ h31 hf t0 hw (lvh_sub hl [0, 1, 2, 3, 4] rfl)
  · have hf := ite_t c8 hf
    refine r_iload C hl (kx := 4) rfl dX12_shuts_89 ?_
    refine r_istore_n C hl (by decide) (L' := [(3, 0, x4), (0, 2, x0), (1, 0, x1), (2, 0, x2), (4, 0, x4)]) rfl rfl dX12_shuts_91 (fun ls hl => ?_)
    exact w_X12_shuts_92 C _ h31 hf t0 hw (lvh_sub hl [1, 2, 3, 0, 4] rfl)
set_option maxHeartbeats 4000000 in
set_option maxRecDepth 20000 in
theorem w_X12_shuts_31 (C : Cx p s m args meth c D b cX12_shuts 5 RX12 (some .int)) {r : Int} {μ' : Mem} : ∀ (n : Nat) (x0 x1 x2 x3 x4 : Int) (μ : Mem) (H : Heap) (locs : List Loc) (ls : Array Slot), f_X12_shuts_w31 n x0 x1 x2 x3 x4 μ = some (r, μ') → isK x0 12 → Hw D b μ s.heap H locs → lvh b ls 5 [(0, 2, x0), (1, 0, x1), (2, 0, x2), (3, 0, x3), (4, 0, x4)] → W p l e (rm 5) s m args below meth c H locs 0 0 (QM below args s D b (some (.int (jI r))) μ') (F0 m 31 ls []) := by
  intro n
  induction n with
  | zero => intro x0 x1 x2 x3 x4 μ H locs ls hf; cases hf
  | succ n ih =>
    intro x0 x1 x2 x3 x4 μ H locs ls hf t0 hw hl
    rw [f_X12_shuts_w31.eq_2] at hf
    refine r_iload C hl (kx := 4) rfl dX12_shuts_31 ?_
    refine r_iconst C dX12_shuts_33 ?_
    refine r_aload_n C hl (kx := 0) rfl rfl dX12_shuts_34 ?_
    refine gf_12_13 C hw t0 dX12_shuts_35 ?_
    refine r_iconst C dX12_shuts_38 ?_
    refine r_iald C hw (n := 3300) (ow_12_1 t0) (j := 2) (by decide) (by decide) (by decide) dX12_shuts_39 ?_
    refine r_ishl C dX12_shuts_40 ?_
    refine r_icmp_ge C (tgt := 98) (by decide) dX12_shuts_41 (fun c1 => ?_) (fun c1 => ?_)
    · have hf := ite_t c1 hf
      refine r_iload_n C hl (kx := 3) rfl rfl dX12_shuts_98 ?_
      refine r_iconst C dX12_shuts_99 ?_
      refine r_icmp_eq C (tgt := 108) (by decide) dX12_shuts_100 (fun c2 => ?_) (fun c2 => ?_)
      · have hf := ite_t c2 hf
        refine r_iload_n C hl (kx := 3) rfl rfl dX12_shuts_108 ?_
        refine r_goto C (tgt := 116) (by decide) dX12_shuts_109 ?_
        exact r_iret C hw hf dX12_shuts_116
      · have hf := ite_f c2 hf
        refine r_iload_n C hl (kx := 2) rfl rfl dX12_shuts_103 ?_
        refine r_iconst C dX12_shuts_104 ?_
        refine r_icmp_ne C (tgt := 112) (by decide) dX12_shuts_105 (fun c3 => ?_) (fun c3 => ?_)
        · have hf := ite_f c3 hf
          refine r_iload_n C hl (kx := 3) rfl rfl dX12_shuts_112 ?_
          obtain ⟨r5, μ4, e6, hf⟩ := bn_some hf
          refine r_callSv C hw (K := [(0, x3)]) (c_X12_bitsOf l D b e6) mi_X12_bitsOf st_X12_bitsOf kl_12_212 rfl rfl (lvh_sz hl) (by decide) (Kr := []) rfl (Nat.le_of_ble_eq_true rfl) dX12_shuts_113 (fun H locs hw => ?_)
          exact r_iret C hw hf dX12_shuts_116
        · have hf := ite_t c3 hf
          refine r_iload_n C hl (kx := 3) rfl rfl dX12_shuts_108 ?_
          refine r_goto C (tgt := 116) (by decide) dX12_shuts_109 ?_
          exact r_iret C hw hf dX12_shuts_116
    · have hf := ite_f c1 hf
      refine r_iload_n C hl (kx := 3) rfl rfl dX12_shuts_44 ?_
      refine r_iconst C dX12_shuts_45 ?_
      refine r_icmp_eq C (tgt := 64) (by decide) dX12_shuts_46 (fun c7 => ?_) (fun c7 => ?_)
      · have hf := ite_t c7 hf
        exact w_X12_shuts_64 C _ ih hf t0 hw (lvh_sub hl [0, 1, 2, 3, 4] rfl)
      · have hf := ite_f c7 hf
        refine r_iload C hl (kx := 4) rfl dX12_shuts_49 ?_
        obtain ⟨r9, μ8, e10, hf⟩ := bn_some hf
        refine r_callSv C hw (K := [(0, x4)]) (c_X12_bitsOf l D b e10) mi_X12_bitsOf st_X12_bitsOf kl_12_212 rfl rfl (lvh_sz hl) (by decide) (Kr := []) rfl (Nat.le_of_ble_eq_true rfl) dX12_shuts_51 (fun H locs hw => ?_)
        refine r_iload_n C hl (kx := 3) rfl rfl dX12_shuts_54 ?_
        obtain ⟨r12, μ11, e13, hf⟩ := bn_some hf
        refine r_callSv C hw (K := [(0, x3)]) (c_X12_bitsOf l D b e13) mi_X12_bitsOf st_X12_bitsOf kl_12_212 rfl rfl (lvh_sz hl) (by decide) (Kr := [(0, r9)]) rfl (Nat.le_of_ble_eq_true rfl) dX12_shuts_55 (fun H locs hw => ?_)
        refine r_icmp_lt C (tgt := 64) (by decide) dX12_shuts_58 (fun c14 => ?_) (fun c14 => ?_)
        · have hf := ite_t c14 hf
          exact w_X12_shuts_64 C _ ih hf t0 hw (lvh_sub hl [0, 1, 2, 3, 4] rfl)
        · have hf := ite_f c14 hf
          refine r_goto C (tgt := 92) (by decide) dX12_shuts_61 ?_
          exact w_X12_shuts_92 C _ ih hf t0 hw (lvh_sub hl [0, 1, 2, 3, 4] rfl)
set_option maxHeartbeats 4000000 in
set_option maxRecDepth 20000 in
theorem w_X12_shuts_0 (C : Cx p s m args meth c D b cX12_shuts 5 RX12 (some .int)) {r : Int} {μ' : Mem} {x0 x1 x2 : Int} {μ : Mem} {H : Heap} {locs : List Loc} {ls : Array Slot} (hf : f_X12_shuts x0 x1 x2 μ = some (r, μ')) (t0 : isK x0 12) (hw : Hw D b μ s.heap H locs) (hl : lvh b ls 5 [(0, 2, x0), (1, 0, x1), (2, 0, x2)]) : W p l e (rm 5) s m args below meth c H locs 0 0 (QM below args s D b (some (.int (jI r))) μ') (F0 m 0 ls []) := by
  unfold f_X12_shuts at hf
  refine r_aload_n C hl (kx := 0) rfl rfl dX12_shuts_0 ?_
  refine r_iconst C dX12_shuts_1 ?_
  obtain ⟨μ1, e2, hf⟩ := nm_some hf
  refine pf_12_1 C hw t0 dX12_shuts_2 (fun H locs hw => ?_)
  rw [← e2] at hw
  refine r_aload_n C hl (kx := 0) rfl rfl dX12_shuts_5 ?_
  refine r_iload_n C hl (kx := 1) rfl rfl dX12_shuts_6 ?_
  obtain ⟨r4, μ3, e5, hf⟩ := bn_some hf
  refine r_callVv C hw (K := [(0, x1)]) ok12 t0 (c_X12_isPlace l D b t0 e5) mi_X12_isPlace in_X12_isPlace se_X12_isPlace kl_12_335 rfl rfl (lvh_sz hl) (by decide) (Kr := []) rfl (Nat.le_of_ble_eq_true rfl) dX12_shuts_7 (fun H locs hw => ?_)
  refine r_if_eq C (tgt := 23) (by decide) dX12_shuts_10 (fun c6 => ?_) (fun c6 => ?_)
  · have hf := ite_t c6 hf
    refine r_bipush C (by decide) dX12_shuts_23 ?_
    exact r_iret C hw hf dX12_shuts_25
  · have hf := ite_f c6 hf
    refine r_iload_n C hl (kx := 2) rfl rfl dX12_shuts_13 ?_
    refine r_i2l C dX12_shuts_14 ?_
    refine r_lconst C (z := 0) (by decide) dX12_shuts_15 ?_
    refine r_lconst C (z := 1) (by decide) dX12_shuts_16 ?_
    obtain ⟨r8, μ7, e9, hf⟩ := bn_some hf
    refine r_callSv C hw (K := [(1, (nrm x2)), (1, 0), (1, 1)]) (c_X12_within l D b e9) mi_X12_within st_X12_within kl_12_136 rfl rfl (lvh_sz hl) (by decide) (Kr := []) rfl (Nat.le_of_ble_eq_true rfl) dX12_shuts_17 (fun H locs hw => ?_)
    refine r_if_ne C (tgt := 26) (by decide) dX12_shuts_20 (fun c10 => ?_) (fun c10 => ?_)
    · have hf := ite_f c10 hf
      refine r_iconst C dX12_shuts_26 ?_
      refine r_istore_n C hl (by decide) (L' := [(3, 0, (-1)), (0, 2, x0), (1, 0, x1), (2, 0, x2)]) rfl rfl dX12_shuts_27 (fun ls hl => ?_)
      refine r_iconst C dX12_shuts_28 ?_
      refine r_istore C hl (by decide) (L' := [(4, 0, 0), (3, 0, (-1)), (0, 2, x0), (1, 0, x1), (2, 0, x2)]) rfl dX12_shuts_29 (fun ls hl => ?_)
      exact w_X12_shuts_31 C FU _ _ _ _ _ _ _ _ _ hf t0 hw (lvh_sub hl [2, 3, 4, 1, 0] rfl)
    · have hf := ite_t c10 hf
      refine r_bipush C (by decide) dX12_shuts_23 ?_
      exact r_iret C hw hf dX12_shuts_25
theorem c_X12_shuts (l : Launch) (D : Ds) (b : Nat) {x0 x1 x2 : Int} {μ μ' : Mem} {r : Int} (t0 : isK x0 12) (hf : f_X12_shuts x0 x1 x2 μ = some (r, μ')) : Ctr l D b yX12_shuts cX12_shuts 5 (some .int) 5 [(2, x0), (0, x1), (0, x2)] μ (some (.int (jI r))) μ' := by
  refine Ctr.of (by decide +kernel) (Nat.le_of_ble_eq_true rfl) ?_
  intro p e s m below meth c C hw ls hl
  exact w_X12_shuts_0 C hf t0 hw hl
set_option maxHeartbeats 4000000 in
set_option maxRecDepth 20000 in
theorem w_X12_turnedTo_7 (C : Cx p s m args meth c D b cX12_turnedTo 3 RX12 (some .int)) {r : Int} {μ' : Mem} : ∀ (n : Nat) (x0 x2 : Int) (μ : Mem) (H : Heap) (locs : List Loc) (ls : Array Slot), f_X12_turnedTo_w7 n x0 x2 μ = some (r, μ') → isK x0 12 → Hw D b μ s.heap H locs → lvh b ls 3 [(0, 2, x0), (2, 0, x2)] → W p l e (rm 2) s m args below meth c H locs 0 0 (QM below args s D b (some (.int (jI r))) μ') (F0 m 7 ls []) := by
  intro n
  induction n with
  | zero => intro x0 x2 μ H locs ls hf; cases hf
  | succ n ih =>
    intro x0 x2 μ H locs ls hf t0 hw hl
    rw [f_X12_turnedTo_w7.eq_2] at hf
    refine r_aload_n C hl (kx := 0) rfl rfl dX12_turnedTo_7 ?_
    refine r_iload_n C hl (kx := 1) rfl rfl dX12_turnedTo_8 ?_
    obtain ⟨r2, μ1, e3, hf⟩ := bn_some hf
    refine r_callVv C hw (K := [(0, x2)]) ok12 t0 (c_X12_seasonTo l D b t0 e3) mi_X12_seasonTo in_X12_seasonTo se_X12_seasonTo kl_12_267 rfl rfl (lvh_sz hl) (by decide) (Kr := []) rfl (Nat.le_of_ble_eq_true rfl) dX12_turnedTo_9 (fun H locs hw => ?_)
    refine r_iload_n C hl (kx := 1) rfl rfl dX12_turnedTo_12 ?_
    refine r_icmp_eq C (tgt := 35) (by decide) dX12_turnedTo_13 (fun c4 => ?_) (fun c4 => ?_)
    · have hf := ite_t c4 hf
      refine r_iload_n C hl (kx := 1) rfl rfl dX12_turnedTo_35 ?_
      exact r_iret C hw hf dX12_turnedTo_36
    · have hf := ite_f c4 hf
      refine r_aload_n C hl (kx := 0) rfl rfl dX12_turnedTo_16 ?_
      refine r_iload_n C hl (kx := 1) rfl rfl dX12_turnedTo_17 ?_
      obtain ⟨r6, μ5, e7, hf⟩ := bn_some hf
      refine r_callVv C hw (K := [(0, x2)]) ok12 t0 (c_X12_seasonTo l D b t0 e7) mi_X12_seasonTo in_X12_seasonTo se_X12_seasonTo kl_12_267 rfl rfl (lvh_sz hl) (by decide) (Kr := []) rfl (Nat.le_of_ble_eq_true rfl) dX12_turnedTo_18 (fun H locs hw => ?_)
      refine r_istore_n C hl (by decide) (L' := [(2, 0, r6), (0, 2, x0)]) rfl rfl dX12_turnedTo_21 (fun ls hl => ?_)
      refine r_aload_n C hl (kx := 1) rfl rfl dX12_turnedTo_22 ?_
      refine r_dup C (rfv_cat _ _) dX12_turnedTo_23 ?_
      refine gf_12_365 C hw t0 dX12_turnedTo_24 ?_
      refine r_iconst C dX12_turnedTo_27 ?_
      refine r_iadd C dX12_turnedTo_28 ?_
      obtain ⟨μ8, e9, hf⟩ := nm_some hf
      refine pf_12_365 C hw t0 dX12_turnedTo_29 (fun H locs hw => ?_)
      rw [← e9] at hw
      refine r_goto C (tgt := 7) (by decide) dX12_turnedTo_32 ?_
      exact ih _ _ _ _ _ _ hf t0 hw (lvh_sub hl [1, 0] rfl)
set_option maxHeartbeats 4000000 in
set_option maxRecDepth 20000 in
theorem w_X12_turnedTo_0 (C : Cx p s m args meth c D b cX12_turnedTo 3 RX12 (some .int)) {r : Int} {μ' : Mem} {x0 x1 : Int} {μ : Mem} {H : Heap} {locs : List Loc} {ls : Array Slot} (hf : f_X12_turnedTo x0 x1 μ = some (r, μ')) (t0 : isK x0 12) (hw : Hw D b μ s.heap H locs) (hl : lvh b ls 3 [(0, 2, x0), (1, 0, x1)]) : W p l e (rm 2) s m args below meth c H locs 0 0 (QM below args s D b (some (.int (jI r))) μ') (F0 m 0 ls []) := by
  unfold f_X12_turnedTo at hf
  refine r_iload_n C hl (kx := 1) rfl rfl dX12_turnedTo_0 ?_
  refine r_istore_n C hl (by decide) (L' := [(2, 0, x1), (0, 2, x0), (1, 0, x1)]) rfl rfl dX12_turnedTo_1 (fun ls hl => ?_)
  refine r_aload_n C hl (kx := 1) rfl rfl dX12_turnedTo_2 ?_
  refine r_iconst C dX12_turnedTo_3 ?_
  obtain ⟨μ1, e2, hf⟩ := nm_some hf
  refine pf_12_365 C hw t0 dX12_turnedTo_4 (fun H locs hw => ?_)
  rw [← e2] at hw
  exact w_X12_turnedTo_7 C FU _ _ _ _ _ _ hf t0 hw (lvh_sub hl [1, 0] rfl)
theorem c_X12_turnedTo (l : Launch) (D : Ds) (b : Nat) {x0 x1 : Int} {μ μ' : Mem} {r : Int} (t0 : isK x0 12) (hf : f_X12_turnedTo x0 x1 μ = some (r, μ')) : Ctr l D b yX12_turnedTo cX12_turnedTo 3 (some .int) 2 [(2, x0), (0, x1)] μ (some (.int (jI r))) μ' := by
  refine Ctr.of (by decide +kernel) (Nat.le_of_ble_eq_true rfl) ?_
  intro p e s m below meth c C hw ls hl
  exact w_X12_turnedTo_0 C hf t0 hw hl
end WALK
