section WALK
variable {p : Program} {l : Launch} {e : Env} {s : State} {m : MethodId} {args : Array Value} {below : List Frame} {meth : Method} {c : Code} {H : Heap} {locs : List Loc} {D : Ds} {b : Nat} {n0 : Nat}
set_option maxHeartbeats 4000000 in
set_option maxRecDepth 20000 in
theorem w_X1_firstWinning_59 (C : Cx p s m args meth c D b cX1_firstWinning 5 RX1 (some .int)) {r : Int} {μ' : Mem} : ∀ (n : Nat) (x0 x1 x2 x3 x4 : Int) (μ : Mem) (H : Heap) (locs : List Loc) (ls : Array Slot), f_X1_firstWinning_w59 n x0 x1 x2 x3 x4 μ = some (r, μ') → isK x0 1 → Hw D b μ s.heap H locs → lvh b ls 5 [(0, 2, x0), (1, 2, x1), (2, 2, x2), (3, 0, x3), (4, 0, x4)] → W p l e (rm 4) s m args below meth c H locs 0 0 (QM below args s D b (some (.int (jI r))) μ') (F0 m 59 ls []) := by
  intro n
  induction n with
  | zero => intro x0 x1 x2 x3 x4 μ H locs ls hf; cases hf
  | succ n ih =>
    intro x0 x1 x2 x3 x4 μ H locs ls hf t0 hw hl
    rw [f_X1_firstWinning_w59.eq_2] at hf
    refine r_iload C hl (kx := 4) rfl dX1_firstWinning_59 ?_
    refine r_aload_n C hl (kx := 2) rfl rfl dX1_firstWinning_61 ?_
    obtain ⟨g1, hf⟩ := gd_some hf
    refine gf_1_25 C hw g1 dX1_firstWinning_62 ?_
    refine r_icmp_ge C (tgt := 93) (by decide) dX1_firstWinning_65 (fun c2 => ?_) (fun c2 => ?_)
    · have hf := ite_t c2 hf
      refine r_iconst C dX1_firstWinning_93 ?_
      exact r_iret C hw hf dX1_firstWinning_94
    · have hf := ite_f c2 hf
      refine r_aload_n C hl (kx := 0) rfl rfl dX1_firstWinning_68 ?_
      refine r_aload_n C hl (kx := 2) rfl rfl dX1_firstWinning_69 ?_
      refine r_iload_n C hl (kx := 3) rfl rfl dX1_firstWinning_70 ?_
      refine r_iconst C dX1_firstWinning_71 ?_
      refine r_iload C hl (kx := 4) rfl dX1_firstWinning_72 ?_
      refine r_aload_n C hl (kx := 1) rfl rfl dX1_firstWinning_74 ?_
      obtain ⟨g3, hf⟩ := gd_some hf
      refine gf_1_35 C hw g3 dX1_firstWinning_75 ?_
      obtain ⟨r5, μ4, e6, hf⟩ := bn_some hf
      refine r_callVv C hw (K := [(2, x2), (0, x3), (0, 0), (0, x4), (0, (μ x1 1))]) ok1 t0 (c_X1_leadsToLoss l D b t0 e6) mi_X1_leadsToLoss in_X1_leadsToLoss se_X1_leadsToLoss kl_1_38 rfl rfl (lvh_sz hl) (by decide) (Kr := []) rfl (Nat.le_of_ble_eq_true rfl) dX1_firstWinning_78 (fun H locs hw => ?_)
      refine r_if_eq C (tgt := 87) (by decide) dX1_firstWinning_81 (fun c7 => ?_) (fun c7 => ?_)
      · have hf := ite_t c7 hf
        refine r_iinc C hl (kx := 4) rfl (by decide) (L' := [(4, 0, (x4 + 1)), (0, 2, x0), (1, 2, x1), (2, 2, x2), (3, 0, x3)]) rfl dX1_firstWinning_87 (fun ls hl => ?_)
        refine r_goto C (tgt := 59) (by decide) dX1_firstWinning_90 ?_
        exact ih _ _ _ _ _ _ _ _ _ hf t0 hw (lvh_sub hl [1, 2, 3, 4, 0] rfl)
      · have hf := ite_f c7 hf
        refine r_iload C hl (kx := 4) rfl dX1_firstWinning_84 ?_
        exact r_iret C hw hf dX1_firstWinning_86
set_option maxHeartbeats 4000000 in
set_option maxRecDepth 20000 in
theorem w_X1_firstWinning_50 (C : Cx p s m args meth c D b cX1_firstWinning 5 RX1 (some .int)) {r : Int} {μ' : Mem} (k20 : Int → Int → Int → Int → Int → Mem → Option (Int × Mem)) (h20 : ∀ (x0 x1 x2 x3 x4 : Int) (μ : Mem) (H : Heap) (locs : List Loc) (ls : Array Slot), k20 x0 x1 x2 x3 x4 μ = some (r, μ') → isK x0 1 → Hw D b μ s.heap H locs → lvh b ls 5 [(0, 2, x0), (1, 2, x1), (2, 2, x2), (3, 0, x3), (4, 0, x4)] → W p l e (rm 4) s m args below meth c H locs 0 0 (QM below args s D b (some (.int (jI r))) μ') (F0 m 20 ls [])) {x0 x1 x2 x3 x4 : Int} {μ : Mem} {H : Heap} {locs : List Loc} {ls : Array Slot} (hf : f_X1_firstWinning_j50 k20 x0 x1 x2 x3 x4 μ = some (r, μ')) (t0 : isK x0 1) (hw : Hw D b μ s.heap H locs) (hl : lvh b ls 5 [(0, 2, x0), (1, 2, x1), (2, 2, x2), (3, 0, x3), (4, 0, x4)]) : W p l e (rm 4) s m args below meth c H locs 0 0 (QM below args s D b (some (.int (jI r))) μ') (F0 m 50 ls []) := by
  unfold f_X1_firstWinning_j50 at hf
  refine r_iinc C hl (kx := 4) rfl (by decide) (L' := [(4, 0, (x4 + (-1))), (0, 2, x0), (1, 2, x1), (2, 2, x2), (3, 0, x3)]) rfl dX1_firstWinning_50 (fun ls hl => ?_)
  refine r_goto C (tgt := 20) (by decide) dX1_firstWinning_53 ?_
  exact h20 _ _ _ _ _ _ _ _ _ hf t0 hw (lvh_sub hl [1, 2, 3, 4, 0] rfl)
set_option maxHeartbeats 4000000 in
set_option maxRecDepth 20000 in
theorem w_X1_firstWinning_20 (C : Cx p s m args meth c D b cX1_firstWinning 5 RX1 (some .int)) {r : Int} {μ' : Mem} : ∀ (n : Nat) (x0 x1 x2 x3 x4 : Int) (μ : Mem) (H : Heap) (locs : List Loc) (ls : Array Slot), f_X1_firstWinning_w20 n x0 x1 x2 x3 x4 μ = some (r, μ') → isK x0 1 → Hw D b μ s.heap H locs → lvh b ls 5 [(0, 2, x0), (1, 2, x1), (2, 2, x2), (3, 0, x3), (4, 0, x4)] → W p l e (rm 4) s m args below meth c H locs 0 0 (QM below args s D b (some (.int (jI r))) μ') (F0 m 20 ls []) := by
  intro n
  induction n with
  | zero => intro x0 x1 x2 x3 x4 μ H locs ls hf; cases hf
  | succ n ih =>
    intro x0 x1 x2 x3 x4 μ H locs ls hf t0 hw hl
    rw [f_X1_firstWinning_w20.eq_2] at hf
    refine r_iload C hl (kx := 4) rfl dX1_firstWinning_20 ?_
    refine r_if_lt C (tgt := 56) (by decide) dX1_firstWinning_22 (fun c1 => ?_) (fun c1 => ?_)
    · have hf := ite_t c1 hf
      refine r_iconst C dX1_firstWinning_56 ?_
      refine r_istore C hl (by decide) (L' := [(4, 0, 0), (0, 2, x0), (1, 2, x1), (2, 2, x2), (3, 0, x3)]) rfl dX1_firstWinning_57 (fun ls hl => ?_)
      exact w_X1_firstWinning_59 C FU _ _ _ _ _ _ _ _ _ hf t0 hw (lvh_sub hl [1, 2, 3, 4, 0] rfl)
    · have hf := ite_f c1 hf
      refine r_iload C hl (kx := 4) rfl dX1_firstWinning_25 ?_
      refine r_aload_n C hl (kx := 0) rfl rfl dX1_firstWinning_27 ?_
      refine gf_1_9 C hw t0 dX1_firstWinning_28 ?_
      refine r_alen1 C hw (n := 512) (ow_1_0 t0) (by decide) (z := 512) rfl dX1_firstWinning_31 ?_
      refine r_icmp_ge C (tgt := 50) (by decide) dX1_firstWinning_32 (fun c2 => ?_) (fun c2 => ?_)
      · have hf := ite_t c2 hf
        exact w_X1_firstWinning_50 C _ ih hf t0 hw (lvh_sub hl [0, 1, 2, 3, 4] rfl)
      · have hf := ite_f c2 hf
        refine r_aload_n C hl (kx := 0) rfl rfl dX1_firstWinning_35 ?_
        refine gf_1_9 C hw t0 dX1_firstWinning_36 ?_
        refine r_iload C hl (kx := 4) rfl dX1_firstWinning_39 ?_
        refine r_aload_n C hl (kx := 0) rfl rfl dX1_firstWinning_41 ?_
        refine r_aload_n C hl (kx := 2) rfl rfl dX1_firstWinning_42 ?_
        refine r_iload_n C hl (kx := 3) rfl rfl dX1_firstWinning_43 ?_
        refine r_iload C hl (kx := 4) rfl dX1_firstWinning_44 ?_
        obtain ⟨r4, μ3, e5, hf⟩ := bn_some hf
        refine r_callVv C hw (K := [(2, x2), (0, x3), (0, x4)]) ok1 t0 (c_X1_wonBehind l D b t0 e5) mi_X1_wonBehind in_X1_wonBehind se_X1_wonBehind kl_1_31 rfl rfl (lvh_sz hl) (by decide) (Kr := [(0, x4), (2, (x0 + 1))]) rfl (Nat.le_of_ble_eq_true rfl) dX1_firstWinning_46 (fun H locs hw => ?_)
        obtain ⟨g8, hf⟩ := gd_some hf
        obtain ⟨μ6, e7, hf⟩ := nm_some hf
        refine r_iast C hw (n := 512) (ow_1_0 t0) (j := (nrm x4)) rfl g8 (by decide) dX1_firstWinning_49 (fun H locs hw => ?_)
        rw [← e7] at hw
        exact w_X1_firstWinning_50 C _ ih hf t0 hw (lvh_sub hl [0, 1, 2, 3, 4] rfl)
set_option maxHeartbeats 4000000 in
set_option maxRecDepth 20000 in
theorem w_X1_firstWinning_0 (C : Cx p s m args meth c D b cX1_firstWinning 5 RX1 (some .int)) {r : Int} {μ' : Mem} {x0 x1 : Int} {μ : Mem} {H : Heap} {locs : List Loc} {ls : Array Slot} (hf : f_X1_firstWinning x0 x1 μ = some (r, μ')) (t0 : isK x0 1) (hw : Hw D b μ s.heap H locs) (hl : lvh b ls 5 [(0, 2, x0), (1, 2, x1)]) : W p l e (rm 4) s m args below meth c H locs 0 0 (QM below args s D b (some (.int (jI r))) μ') (F0 m 0 ls []) := by
  unfold f_X1_firstWinning at hf
  refine r_aload_n C hl (kx := 1) rfl rfl dX1_firstWinning_0 ?_
  obtain ⟨g1, hf⟩ := gd_some hf
  refine gf_1_15 C hw g1 dX1_firstWinning_1 ?_
  refine r_astore_n C hl (by decide) (L' := [(2, 2, (μ x1 0)), (0, 2, x0), (1, 2, x1)]) rfl rfl dX1_firstWinning_4 (fun ls hl => ?_)
  refine r_aload_n C hl (kx := 2) rfl rfl dX1_firstWinning_5 ?_
  obtain ⟨r3, μ2, e4, hf⟩ := bn_some hf
  refine r_callVv C hw (K := []) ok0 g1 (c_X0_openLanes l D b g1 e4) mi_X0_openLanes in_X0_openLanes se_X0_openLanes kl_1_21 rfl rfl (lvh_sz hl) (by decide) (Kr := []) rfl (Nat.le_of_ble_eq_true rfl) dX1_firstWinning_6 (fun H locs hw => ?_)
  refine r_istore_n C hl (by decide) (L' := [(3, 0, r3), (2, 2, (μ x1 0)), (0, 2, x0), (1, 2, x1)]) rfl rfl dX1_firstWinning_9 (fun ls hl => ?_)
  refine r_iconst C dX1_firstWinning_10 ?_
  refine r_aload_n C hl (kx := 1) rfl rfl dX1_firstWinning_11 ?_
  obtain ⟨g5, hf⟩ := gd_some hf
  refine gf_1_25 C hw g5 dX1_firstWinning_12 ?_
  refine r_ishl C dX1_firstWinning_15 ?_
  refine r_iconst C dX1_firstWinning_16 ?_
  refine r_isub C dX1_firstWinning_17 ?_
  obtain ⟨v6, e7, hf⟩ := nm_some hf
  refine top_i e7 ?_
  refine r_istore C hl (by decide) (L' := [(4, 0, v6), (3, 0, r3), (2, 2, (μ x1 0)), (0, 2, x0), (1, 2, x1)]) rfl dX1_firstWinning_18 (fun ls hl => ?_)
  exact w_X1_firstWinning_20 C FU _ _ _ _ _ _ _ _ _ hf t0 hw (lvh_sub hl [3, 4, 2, 1, 0] rfl)
theorem c_X1_firstWinning (l : Launch) (D : Ds) (b : Nat) {x0 x1 : Int} {μ μ' : Mem} {r : Int} (t0 : isK x0 1) (hf : f_X1_firstWinning x0 x1 μ = some (r, μ')) : Ctr l D b yX1_firstWinning cX1_firstWinning 5 (some .int) 4 [(2, x0), (2, x1)] μ (some (.int (jI r))) μ' := by
  refine Ctr.of (by decide +kernel) (Nat.le_of_ble_eq_true rfl) ?_
  intro p e s m below meth c C hw ls hl
  exact w_X1_firstWinning_0 C hf t0 hw hl
set_option maxHeartbeats 4000000 in
set_option maxRecDepth 20000 in
theorem w_X2_kept_0 (C : Cx p s m args meth c D b cX2_kept 1 RX2 (some .int)) {r : Int} {μ' : Mem} {x0 : Int} {μ : Mem} {H : Heap} {locs : List Loc} {ls : Array Slot} (hf : f_X2_kept x0 μ = some (r, μ')) (t0 : isK x0 2) (hw : Hw D b μ s.heap H locs) (hl : lvh b ls 1 [(0, 2, x0)]) : W p l e (rm 0) s m args below meth c H locs 0 0 (QM below args s D b (some (.int (jI r))) μ') (F0 m 0 ls []) := by
  unfold f_X2_kept at hf
  refine r_aload_n C hl (kx := 0) rfl rfl dX2_kept_0 ?_
  refine gf_2_20 C hw t0 dX2_kept_1 ?_
  exact r_iret C hw hf dX2_kept_4
theorem c_X2_kept (l : Launch) (D : Ds) (b : Nat) {x0 : Int} {μ μ' : Mem} {r : Int} (t0 : isK x0 2) (hf : f_X2_kept x0 μ = some (r, μ')) : Ctr l D b yX2_kept cX2_kept 1 (some .int) 0 [(2, x0)] μ (some (.int (jI r))) μ' := by
  refine Ctr.of (by decide +kernel) (Nat.le_of_ble_eq_true rfl) ?_
  intro p e s m below meth c C hw ls hl
  exact w_X2_kept_0 C hf t0 hw hl
set_option maxHeartbeats 4000000 in
set_option maxRecDepth 20000 in
theorem w_X2_forgetAll_0 (C : Cx p s m args meth c D b cX2_forgetAll 1 RX2 (none)) {r : Int} {μ' : Mem} {x0 : Int} {μ : Mem} {H : Heap} {locs : List Loc} {ls : Array Slot} (hf : f_X2_forgetAll x0 μ = some (r, μ')) (t0 : isK x0 2) (hw : Hw D b μ s.heap H locs) (hl : lvh b ls 1 [(0, 2, x0)]) : W p l e (rm 0) s m args below meth c H locs 0 0 (QM below args s D b none μ') (F0 m 0 ls []) := by
  unfold f_X2_forgetAll at hf
  refine r_aload_n C hl (kx := 0) rfl rfl dX2_forgetAll_0 ?_
  refine r_iconst C dX2_forgetAll_1 ?_
  obtain ⟨μ1, e2, hf⟩ := nm_some hf
  refine pf_2_20 C hw t0 dX2_forgetAll_2 (fun H locs hw => ?_)
  rw [← e2] at hw
  exact r_vret C hw hf dX2_forgetAll_5
theorem c_X2_forgetAll (l : Launch) (D : Ds) (b : Nat) {x0 : Int} {μ μ' : Mem} {r : Int} (t0 : isK x0 2) (hf : f_X2_forgetAll x0 μ = some (r, μ')) : Ctr l D b yX2_forgetAll cX2_forgetAll 1 (none) 0 [(2, x0)] μ none μ' := by
  refine Ctr.of (by decide +kernel) (Nat.le_of_ble_eq_true rfl) ?_
  intro p e s m below meth c C hw ls hl
  exact w_X2_forgetAll_0 C hf t0 hw hl
set_option maxHeartbeats 4000000 in
set_option maxRecDepth 20000 in
theorem w_X2_keep_0 (C : Cx p s m args meth c D b cX2_keep 2 RX2 (none)) {r : Int} {μ' : Mem} {x0 x1 : Int} {μ : Mem} {H : Heap} {locs : List Loc} {ls : Array Slot} (hf : f_X2_keep x0 x1 μ = some (r, μ')) (t0 : isK x0 2) (hw : Hw D b μ s.heap H locs) (hl : lvh b ls 2 [(0, 2, x0), (1, 2, x1)]) : W p l e (rm 2) s m args below meth c H locs 0 0 (QM below args s D b none μ') (F0 m 0 ls []) := by
  unfold f_X2_keep at hf
  refine r_aload_n C hl (kx := 0) rfl rfl dX2_keep_0 ?_
  refine gf_2_24 C hw t0 dX2_keep_1 ?_
  refine r_if_lt C (tgt := 72) (by decide) dX2_keep_4 (fun c1 => ?_) (fun c1 => ?_)
  · have hf := ite_t c1 hf
    exact r_vret C hw hf dX2_keep_72
  · have hf := ite_f c1 hf
    refine r_aload_n C hl (kx := 0) rfl rfl dX2_keep_7 ?_
    refine gf_2_24 C hw t0 dX2_keep_8 ?_
    refine r_aload_n C hl (kx := 0) rfl rfl dX2_keep_11 ?_
    refine gf_2_11 C hw t0 dX2_keep_12 ?_
    refine r_alen6 C hw (n := 10) (ow_2_0 t0) (by decide) (z := 10) rfl dX2_keep_15 ?_
    refine r_icmp_ge C (tgt := 72) (by decide) dX2_keep_16 (fun c2 => ?_) (fun c2 => ?_)
    · have hf := ite_t c2 hf
      exact r_vret C hw hf dX2_keep_72
    · have hf := ite_f c2 hf
      refine r_aload_n C hl (kx := 0) rfl rfl dX2_keep_19 ?_
      refine gf_2_11 C hw t0 dX2_keep_20 ?_
      refine r_aload_n C hl (kx := 0) rfl rfl dX2_keep_23 ?_
      refine gf_2_24 C hw t0 dX2_keep_24 ?_
      obtain ⟨g3, hf⟩ := gd_some hf
      refine r_aald6 C hw (n := 10) (ow_2_0 t0) (j := (nrm (μ x0 1))) rfl g3 (by decide) dX2_keep_27 ?_
      refine r_ifnull C (tgt := 72) (by decide) dX2_keep_28 (fun c4 => ?_) (fun c4 => ?_)
      · have hf := ite_t c4 hf
        exact r_vret C hw hf dX2_keep_72
      · have hf := ite_f c4 hf
        refine r_aload_n C hl (kx := 0) rfl rfl dX2_keep_31 ?_
        refine gf_2_11 C hw t0 dX2_keep_32 ?_
        refine r_aload_n C hl (kx := 0) rfl rfl dX2_keep_35 ?_
        refine gf_2_24 C hw t0 dX2_keep_36 ?_
        obtain ⟨g5, hf⟩ := gd_some hf
        refine r_aald6 C hw (n := 10) (ow_2_0 t0) (j := (nrm (μ x0 1))) rfl g5 (by decide) dX2_keep_39 ?_
        refine r_aload_n C hl (kx := 1) rfl rfl dX2_keep_40 ?_
        obtain ⟨r7, μ6, e8, hf⟩ := bn_some hf
        refine r_callVn C hw (K := [(2, x1)]) ok0 (el_60010 (ow_2_0 t0) g5) (c_X0_takeOver l D b (el_60010 (ow_2_0 t0) g5) e8) mi_X0_takeOver in_X0_takeOver se_X0_takeOver kl_2_27 rfl rfl (lvh_sz hl) (by decide) (Kr := []) rfl (Nat.le_of_ble_eq_true rfl) dX2_keep_41 (fun H locs hw => ?_)
        refine r_aload_n C hl (kx := 0) rfl rfl dX2_keep_44 ?_
        refine r_aload_n C hl (kx := 0) rfl rfl dX2_keep_45 ?_
        refine gf_2_24 C hw t0 dX2_keep_46 ?_
        refine r_iconst C dX2_keep_49 ?_
        refine r_iadd C dX2_keep_50 ?_
        refine r_bipush C (by decide) dX2_keep_51 ?_
        refine r_irem C (by decide) dX2_keep_53 ?_
        obtain ⟨μ9, e10, hf⟩ := nm_some hf
        refine pf_2_24 C hw t0 dX2_keep_54 (fun H locs hw => ?_)
        rw [← e10] at hw
        refine r_aload_n C hl (kx := 0) rfl rfl dX2_keep_57 ?_
        refine r_bipush C (by decide) dX2_keep_58 ?_
        refine r_aload_n C hl (kx := 0) rfl rfl dX2_keep_60 ?_
        refine gf_2_20 C hw t0 dX2_keep_61 ?_
        refine r_iconst C dX2_keep_64 ?_
        refine r_iadd C dX2_keep_65 ?_
        obtain ⟨r12, μ11, e13, hf⟩ := bn_some hf
        refine r_callSv C hw (K := [(0, 10), (0, ((μ9 x0 2) + 1))]) (c_J9_min_7cf53 l D b e13) mi_J9_min_7cf53 st_J9_min_7cf53 kl_2_31 rfl rfl (lvh_sz hl) (by decide) (Kr := [(2, x0)]) rfl (Nat.le_of_ble_eq_true rfl) dX2_keep_66 (fun H locs hw => ?_)
        obtain ⟨μ14, e15, hf⟩ := nm_some hf
        refine pf_2_20 C hw t0 dX2_keep_69 (fun H locs hw => ?_)
        rw [← e15] at hw
        exact r_vret C hw hf dX2_keep_72
theorem c_X2_keep (l : Launch) (D : Ds) (b : Nat) {x0 x1 : Int} {μ μ' : Mem} {r : Int} (t0 : isK x0 2) (hf : f_X2_keep x0 x1 μ = some (r, μ')) : Ctr l D b yX2_keep cX2_keep 2 (none) 2 [(2, x0), (2, x1)] μ none μ' := by
  refine Ctr.of (by decide +kernel) (Nat.le_of_ble_eq_true rfl) ?_
  intro p e s m below meth c C hw ls hl
  exact w_X2_keep_0 C hf t0 hw hl
set_option maxHeartbeats 4000000 in
set_option maxRecDepth 20000 in
theorem w_J9_floorMod_7cf53_0 (C : Cx p s m args meth c D b cJ9_floorMod_7cf53 3 RJ9 (some .int)) {r : Int} {μ' : Mem} {x0 x1 : Int} {μ : Mem} {H : Heap} {locs : List Loc} {ls : Array Slot} (hf : f_J9_floorMod_7cf53 x0 x1 μ = some (r, μ')) (hw : Hw D b μ s.heap H locs) (hl : lvh b ls 3 [(0, 0, x0), (1, 0, x1)]) : W p l e (rm 0) s m args below meth c H locs 0 0 (QM below args s D b (some (.int (jI r))) μ') (F0 m 0 ls []) := by
  unfold f_J9_floorMod_7cf53 at hf
  refine r_iload_n C hl (kx := 0) rfl rfl dJ9_floorMod_7cf53_0 ?_
  refine r_iload_n C hl (kx := 1) rfl rfl dJ9_floorMod_7cf53_1 ?_
  obtain ⟨g1, hf⟩ := gd_some hf
  refine r_irem C g1 dJ9_floorMod_7cf53_2 ?_
  obtain ⟨v2, e3, hf⟩ := nm_some hf
  refine top_i e3 ?_
  refine r_istore_n C hl (by decide) (L' := [(2, 0, v2), (0, 0, x0), (1, 0, x1)]) rfl rfl dJ9_floorMod_7cf53_3 (fun ls hl => ?_)
  refine r_iload_n C hl (kx := 1) rfl rfl dJ9_floorMod_7cf53_4 ?_
  refine r_iload_n C hl (kx := 2) rfl rfl dJ9_floorMod_7cf53_5 ?_
  refine r_ixor C dJ9_floorMod_7cf53_6 ?_
  refine r_if_ge C (tgt := 18) (by decide) dJ9_floorMod_7cf53_7 (fun c4 => ?_) (fun c4 => ?_)
  · have hf := ite_t c4 hf
    refine r_iload_n C hl (kx := 0) rfl rfl dJ9_floorMod_7cf53_18 ?_
    exact r_iret C hw hf dJ9_floorMod_7cf53_19
  · have hf := ite_f c4 hf
    refine r_iload_n C hl (kx := 0) rfl rfl dJ9_floorMod_7cf53_10 ?_
    refine r_if_eq C (tgt := 18) (by decide) dJ9_floorMod_7cf53_11 (fun c5 => ?_) (fun c5 => ?_)
    · have hf := ite_t c5 hf
      refine r_iload_n C hl (kx := 0) rfl rfl dJ9_floorMod_7cf53_18 ?_
      exact r_iret C hw hf dJ9_floorMod_7cf53_19
    · have hf := ite_f c5 hf
      refine r_iload_n C hl (kx := 0) rfl rfl dJ9_floorMod_7cf53_14 ?_
      refine r_iload_n C hl (kx := 2) rfl rfl dJ9_floorMod_7cf53_15 ?_
      refine r_iadd C dJ9_floorMod_7cf53_16 ?_
      exact r_iret C hw hf dJ9_floorMod_7cf53_17
theorem c_J9_floorMod_7cf53 (l : Launch) (D : Ds) (b : Nat) {x0 x1 : Int} {μ μ' : Mem} {r : Int} (hf : f_J9_floorMod_7cf53 x0 x1 μ = some (r, μ')) : Ctr l D b yJ9_floorMod_7cf53 cJ9_floorMod_7cf53 3 (some .int) 0 [(0, x0), (0, x1)] μ (some (.int (jI r))) μ' := by
  refine Ctr.of (by decide +kernel) (Nat.le_of_ble_eq_true rfl) ?_
  intro p e s m below meth c C hw ls hl
  exact w_J9_floorMod_7cf53_0 C hf hw hl
set_option maxHeartbeats 4000000 in
set_option maxRecDepth 20000 in
theorem w_X2_bringBack_0 (C : Cx p s m args meth c D b cX2_bringBack 4 RX2 (none)) {r : Int} {μ' : Mem} {x0 x1 x2 : Int} {μ : Mem} {H : Heap} {locs : List Loc} {ls : Array Slot} (hf : f_X2_bringBack x0 x1 x2 μ = some (r, μ')) (t0 : isK x0 2) (hw : Hw D b μ s.heap H locs) (hl : lvh b ls 4 [(0, 2, x0), (1, 0, x1), (2, 2, x2)]) : W p l e (rm 2) s m args below meth c H locs 0 0 (QM below args s D b none μ') (F0 m 0 ls []) := by
  unfold f_X2_bringBack at hf
  refine r_iload_n C hl (kx := 1) rfl rfl dX2_bringBack_0 ?_
  refine r_iconst C dX2_bringBack_1 ?_
  refine r_icmp_lt C (tgt := 13) (by decide) dX2_bringBack_2 (fun c1 => ?_) (fun c1 => ?_)
  · have hf := ite_t c1 hf
    exact r_vret C hw hf dX2_bringBack_13
  · have hf := ite_f c1 hf
    refine r_iload_n C hl (kx := 1) rfl rfl dX2_bringBack_5 ?_
    refine r_aload_n C hl (kx := 0) rfl rfl dX2_bringBack_6 ?_
    refine gf_2_20 C hw t0 dX2_bringBack_7 ?_
    refine r_icmp_le C (tgt := 14) (by decide) dX2_bringBack_10 (fun c2 => ?_) (fun c2 => ?_)
    · have hf := ite_t c2 hf
      refine r_aload_n C hl (kx := 0) rfl rfl dX2_bringBack_14 ?_
      refine gf_2_24 C hw t0 dX2_bringBack_15 ?_
      refine r_iload_n C hl (kx := 1) rfl rfl dX2_bringBack_18 ?_
      refine r_isub C dX2_bringBack_19 ?_
      refine r_bipush C (by decide) dX2_bringBack_20 ?_
      obtain ⟨r4, μ3, e5, hf⟩ := bn_some hf
      refine r_callSv C hw (K := [(0, ((μ x0 1) - x1)), (0, 10)]) (c_J9_floorMod_7cf53 l D b e5) mi_J9_floorMod_7cf53 st_J9_floorMod_7cf53 kl_2_37 rfl rfl (lvh_sz hl) (by decide) (Kr := []) rfl (Nat.le_of_ble_eq_true rfl) dX2_bringBack_22 (fun H locs hw => ?_)
      refine r_istore_n C hl (by decide) (L' := [(3, 0, r4), (0, 2, x0), (1, 0, x1), (2, 2, x2)]) rfl rfl dX2_bringBack_25 (fun ls hl => ?_)
      refine r_iload_n C hl (kx := 0) rfl rfl dX2_bringBack_26 ?_
      refine r_if_lt C (tgt := 73) (by decide) dX2_bringBack_27 (fun c6 => ?_) (fun c6 => ?_)
      · have hf := ite_t c6 hf
        exact r_vret C hw hf dX2_bringBack_73
      · have hf := ite_f c6 hf
        refine r_iload_n C hl (kx := 0) rfl rfl dX2_bringBack_30 ?_
        refine r_aload_n C hl (kx := 1) rfl rfl dX2_bringBack_31 ?_
        refine gf_2_11 C hw t0 dX2_bringBack_32 ?_
        refine r_alen6 C hw (n := 10) (ow_2_0 t0) (by decide) (z := 10) rfl dX2_bringBack_35 ?_
        refine r_icmp_ge C (tgt := 73) (by decide) dX2_bringBack_36 (fun c7 => ?_) (fun c7 => ?_)
        · have hf := ite_t c7 hf
          exact r_vret C hw hf dX2_bringBack_73
        · have hf := ite_f c7 hf
          refine r_aload_n C hl (kx := 1) rfl rfl dX2_bringBack_39 ?_
          refine gf_2_11 C hw t0 dX2_bringBack_40 ?_
          refine r_iload_n C hl (kx := 0) rfl rfl dX2_bringBack_43 ?_
          obtain ⟨g8, hf⟩ := gd_some hf
          refine r_aald6 C hw (n := 10) (ow_2_0 t0) (j := (nrm r4)) rfl g8 (by decide) dX2_bringBack_44 ?_
          refine r_ifnull C (tgt := 73) (by decide) dX2_bringBack_45 (fun c9 => ?_) (fun c9 => ?_)
          · have hf := ite_t c9 hf
            exact r_vret C hw hf dX2_bringBack_73
          · have hf := ite_f c9 hf
            refine r_aload_n C hl (kx := 1) rfl rfl dX2_bringBack_48 ?_
            refine r_iload_n C hl (kx := 0) rfl rfl dX2_bringBack_49 ?_
            obtain ⟨μ10, e11, hf⟩ := nm_some hf
            refine pf_2_24 C hw t0 dX2_bringBack_50 (fun H locs hw => ?_)
            rw [← e11] at hw
            refine r_aload_n C hl (kx := 1) rfl rfl dX2_bringBack_53 ?_
            refine r_dup C (rfv_cat _ _) dX2_bringBack_54 ?_
            refine gf_2_20 C hw t0 dX2_bringBack_55 ?_
            refine r_iload_n C hl (kx := 2) rfl rfl dX2_bringBack_58 ?_
            refine r_isub C dX2_bringBack_59 ?_
            obtain ⟨μ12, e13, hf⟩ := nm_some hf
            refine pf_2_20 C hw t0 dX2_bringBack_60 (fun H locs hw => ?_)
            rw [← e13] at hw
            refine r_aload_n C hl (kx := 3) rfl rfl dX2_bringBack_63 ?_
            refine r_aload_n C hl (kx := 1) rfl rfl dX2_bringBack_64 ?_
            refine gf_2_11 C hw t0 dX2_bringBack_65 ?_
            refine r_iload_n C hl (kx := 0) rfl rfl dX2_bringBack_68 ?_
            obtain ⟨g14, hf⟩ := gd_some hf
            refine r_aald6 C hw (n := 10) (ow_2_0 t0) (j := (nrm r4)) rfl g14 (by decide) dX2_bringBack_69 ?_
            obtain ⟨g15, hf⟩ := gd_some hf
            obtain ⟨r17, μ16, e18, hf⟩ := bn_some hf
            refine r_callVn C hw (K := [(2, ((x0 + 1) + 1 + 2 * (nrm r4)))]) ok0 g15 (c_X0_takeOver l D b g15 e18) mi_X0_takeOver in_X0_takeOver se_X0_takeOver kl_2_27 rfl rfl (lvh_sz hl) (by decide) (Kr := []) rfl (Nat.le_of_ble_eq_true rfl) dX2_bringBack_70 (fun H locs hw => ?_)
            exact r_vret C hw hf dX2_bringBack_73
    · have hf := ite_f c2 hf
      exact r_vret C hw hf dX2_bringBack_13
theorem c_X2_bringBack (l : Launch) (D : Ds) (b : Nat) {x0 x1 x2 : Int} {μ μ' : Mem} {r : Int} (t0 : isK x0 2) (hf : f_X2_bringBack x0 x1 x2 μ = some (r, μ')) : Ctr l D b yX2_bringBack cX2_bringBack 4 (none) 2 [(2, x0), (0, x1), (2, x2)] μ none μ' := by
  refine Ctr.of (by decide +kernel) (Nat.le_of_ble_eq_true rfl) ?_
  intro p e s m below meth c C hw ls hl
  exact w_X2_bringBack_0 C hf t0 hw hl
set_option maxHeartbeats 4000000 in
set_option maxRecDepth 20000 in
theorem w_J7_fill_53178_5 (C : Cx p s m args meth c D b cJ7_fill_53178 4 RJ7 (none)) {r : Int} {μ' : Mem} : ∀ (n : Nat) (x0 x1 x2 x3 : Int) (μ : Mem) (H : Heap) (locs : List Loc) (ls : Array Slot), f_J7_fill_53178_w5 n x0 x1 x2 x3 μ = some (r, μ') → Hw D b μ s.heap H locs → lvh b ls 4 [(0, 2, x0), (1, 0, x1), (2, 0, x2), (3, 0, x3)] → W p l e (rm 0) s m args below meth c H locs 0 0 (QM below args s D b none μ') (F0 m 5 ls []) := by
  intro n
  induction n with
  | zero => intro x0 x1 x2 x3 μ H locs ls hf; cases hf
  | succ n ih =>
    intro x0 x1 x2 x3 μ H locs ls hf hw hl
    rw [f_J7_fill_53178_w5.eq_2] at hf
    refine r_iload_n C hl (kx := 2) rfl rfl dJ7_fill_53178_5 ?_
    refine r_iload_n C hl (kx := 3) rfl rfl dJ7_fill_53178_6 ?_
    refine r_icmp_ge C (tgt := 20) (by decide) dJ7_fill_53178_7 (fun c1 => ?_) (fun c1 => ?_)
    · have hf := ite_t c1 hf
      exact r_vret C hw hf dJ7_fill_53178_20
    · have hf := ite_f c1 hf
      refine r_aload_n C hl (kx := 0) rfl rfl dJ7_fill_53178_10 ?_
      refine r_iload_n C hl (kx := 2) rfl rfl dJ7_fill_53178_11 ?_
      refine r_iload_n C hl (kx := 1) rfl rfl dJ7_fill_53178_12 ?_
      obtain ⟨g4, hf⟩ := gd_some hf
      obtain ⟨μ2, e3, hf⟩ := nm_some hf
      refine r_iastA C hw g4 dJ7_fill_53178_13 (fun H locs hw => ?_)
      rw [← e3] at hw
      refine r_iinc C hl (kx := 2) rfl (by decide) (L' := [(2, 0, (x2 + 1)), (0, 2, x0), (1, 0, x1), (3, 0, x3)]) rfl dJ7_fill_53178_14 (fun ls hl => ?_)
      refine r_goto C (tgt := 5) (by decide) dJ7_fill_53178_17 ?_
      exact ih _ _ _ _ _ _ _ _ hf hw (lvh_sub hl [1, 2, 0, 3] rfl)
set_option maxHeartbeats 4000000 in
set_option maxRecDepth 20000 in
theorem w_J7_fill_53178_0 (C : Cx p s m args meth c D b cJ7_fill_53178 4 RJ7 (none)) {r : Int} {μ' : Mem} {x0 x1 : Int} {μ : Mem} {H : Heap} {locs : List Loc} {ls : Array Slot} (hf : f_J7_fill_53178 x0 x1 μ = some (r, μ')) (hw : Hw D b μ s.heap H locs) (hl : lvh b ls 4 [(0, 2, x0), (1, 0, x1)]) : W p l e (rm 0) s m args below meth c H locs 0 0 (QM below args s D b none μ') (F0 m 0 ls []) := by
  unfold f_J7_fill_53178 at hf
  refine r_iconst C dJ7_fill_53178_0 ?_
  refine r_istore_n C hl (by decide) (L' := [(2, 0, 0), (0, 2, x0), (1, 0, x1)]) rfl rfl dJ7_fill_53178_1 (fun ls hl => ?_)
  refine r_aload_n C hl (kx := 1) rfl rfl dJ7_fill_53178_2 ?_
  obtain ⟨g1, hf⟩ := gd_some hf
  refine r_alenA C hw g1 dJ7_fill_53178_3 ?_
  obtain ⟨v2, e3, hf⟩ := nm_some hf
  refine top_i e3 ?_
  refine r_istore_n C hl (by decide) (L' := [(3, 0, v2), (2, 0, 0), (0, 2, x0), (1, 0, x1)]) rfl rfl dJ7_fill_53178_4 (fun ls hl => ?_)
  exact w_J7_fill_53178_5 C FU _ _ _ _ _ _ _ _ hf hw (lvh_sub hl [2, 3, 1, 0] rfl)
theorem c_J7_fill_53178 (l : Launch) (D : Ds) (b : Nat) {x0 x1 : Int} {μ μ' : Mem} {r : Int} (hf : f_J7_fill_53178 x0 x1 μ = some (r, μ')) : Ctr l D b yJ7_fill_53178 cJ7_fill_53178 4 (none) 0 [(2, x0), (0, x1)] μ none μ' := by
  refine Ctr.of (by decide +kernel) (Nat.le_of_ble_eq_true rfl) ?_
  intro p e s m below meth c C hw ls hl
  exact w_J7_fill_53178_0 C hf hw hl
set_option maxHeartbeats 4000000 in
set_option maxRecDepth 20000 in
theorem w_X4_makeEmpty_0 (C : Cx p s m args meth c D b cX4_makeEmpty 1 RX4 (none)) {r : Int} {μ' : Mem} {x0 : Int} {μ : Mem} {H : Heap} {locs : List Loc} {ls : Array Slot} (hf : f_X4_makeEmpty x0 μ = some (r, μ')) (t0 : isK x0 4) (hw : Hw D b μ s.heap H locs) (hl : lvh b ls 1 [(0, 2, x0)]) : W p l e (rm 1) s m args below meth c H locs 0 0 (QM below args s D b none μ') (F0 m 0 ls []) := by
  unfold f_X4_makeEmpty at hf
  refine r_aload_n C hl (kx := 0) rfl rfl dX4_makeEmpty_0 ?_
  refine r_iconst C dX4_makeEmpty_1 ?_
  obtain ⟨μ1, e2, hf⟩ := nm_some hf
  refine pf_4_27 C hw t0 dX4_makeEmpty_2 (fun H locs hw => ?_)
  rw [← e2] at hw
  refine r_aload_n C hl (kx := 0) rfl rfl dX4_makeEmpty_5 ?_
  refine gf_4_15 C hw t0 dX4_makeEmpty_6 ?_
  refine r_iconst C dX4_makeEmpty_9 ?_
  obtain ⟨r4, μ3, e5, hf⟩ := bn_some hf
  refine r_callSn C hw (K := [(2, (x0 + 2)), (0, 0)]) (c_J7_fill_53178 l D b e5) mi_J7_fill_53178 st_J7_fill_53178 kl_4_31 rfl rfl (lvh_sz hl) (by decide) (Kr := []) rfl (Nat.le_of_ble_eq_true rfl) dX4_makeEmpty_10 (fun H locs hw => ?_)
  refine r_aload_n C hl (kx := 0) rfl rfl dX4_makeEmpty_13 ?_
  refine gf_4_18 C hw t0 dX4_makeEmpty_14 ?_
  refine r_iconst C dX4_makeEmpty_17 ?_
  obtain ⟨r7, μ6, e8, hf⟩ := bn_some hf
  refine r_callSn C hw (K := [(2, (x0 + 3)), (0, 0)]) (c_J7_fill_53178 l D b e8) mi_J7_fill_53178 st_J7_fill_53178 kl_4_31 rfl rfl (lvh_sz hl) (by decide) (Kr := []) rfl (Nat.le_of_ble_eq_true rfl) dX4_makeEmpty_18 (fun H locs hw => ?_)
  exact r_vret C hw hf dX4_makeEmpty_21
theorem c_X4_makeEmpty (l : Launch) (D : Ds) (b : Nat) {x0 : Int} {μ μ' : Mem} {r : Int} (t0 : isK x0 4) (hf : f_X4_makeEmpty x0 μ = some (r, μ')) : Ctr l D b yX4_makeEmpty cX4_makeEmpty 1 (none) 1 [(2, x0)] μ none μ' := by
  refine Ctr.of (by decide +kernel) (Nat.le_of_ble_eq_true rfl) ?_
  intro p e s m below meth c C hw ls hl
  exact w_X4_makeEmpty_0 C hf t0 hw hl
set_option maxHeartbeats 4000000 in
set_option maxRecDepth 20000 in
theorem w_X3_makeEmpty_0 (C : Cx p s m args meth c D b cX3_makeEmpty 1 RX3 (none)) {r : Int} {μ' : Mem} {x0 : Int} {μ : Mem} {H : Heap} {locs : List Loc} {ls : Array Slot} (hf : f_X3_makeEmpty x0 μ = some (r, μ')) (t0 : isK x0 3) (hw : Hw D b μ s.heap H locs) (hl : lvh b ls 1 [(0, 2, x0)]) : W p l e (rm 2) s m args below meth c H locs 0 0 (QM below args s D b none μ') (F0 m 0 ls []) := by
  unfold f_X3_makeEmpty at hf
  refine r_aload_n C hl (kx := 0) rfl rfl dX3_makeEmpty_0 ?_
  refine r_iconst C dX3_makeEmpty_1 ?_
  obtain ⟨μ1, e2, hf⟩ := nm_some hf
  refine pf_3_37 C hw t0 dX3_makeEmpty_2 (fun H locs hw => ?_)
  rw [← e2] at hw
  refine r_aload_n C hl (kx := 0) rfl rfl dX3_makeEmpty_5 ?_
  refine r_iconst C dX3_makeEmpty_6 ?_
  obtain ⟨μ3, e4, hf⟩ := nm_some hf
  refine pf_3_41 C hw t0 dX3_makeEmpty_7 (fun H locs hw => ?_)
  rw [← e4] at hw
  refine r_aload_n C hl (kx := 0) rfl rfl dX3_makeEmpty_10 ?_
  refine r_iconst C dX3_makeEmpty_11 ?_
  obtain ⟨μ5, e6, hf⟩ := nm_some hf
  refine pf_3_44 C hw t0 dX3_makeEmpty_12 (fun H locs hw => ?_)
  rw [← e6] at hw
  refine r_aload_n C hl (kx := 0) rfl rfl dX3_makeEmpty_15 ?_
  refine r_iconst C dX3_makeEmpty_16 ?_
  obtain ⟨μ7, e8, hf⟩ := nm_some hf
  refine pf_3_47 C hw t0 dX3_makeEmpty_17 (fun H locs hw => ?_)
  rw [← e8] at hw
  refine r_aload_n C hl (kx := 0) rfl rfl dX3_makeEmpty_20 ?_
  refine r_iconst C dX3_makeEmpty_21 ?_
  obtain ⟨μ9, e10, hf⟩ := nm_some hf
  refine pf_3_50 C hw t0 dX3_makeEmpty_22 (fun H locs hw => ?_)
  rw [← e10] at hw
  refine r_aload_n C hl (kx := 0) rfl rfl dX3_makeEmpty_25 ?_
  refine r_iconst C dX3_makeEmpty_26 ?_
  obtain ⟨μ11, e12, hf⟩ := nm_some hf
  refine pf_3_53 C hw t0 dX3_makeEmpty_27 (fun H locs hw => ?_)
  rw [← e12] at hw
  refine r_aload_n C hl (kx := 0) rfl rfl dX3_makeEmpty_30 ?_
  refine r_iconst C dX3_makeEmpty_31 ?_
  obtain ⟨μ13, e14, hf⟩ := nm_some hf
  refine pf_3_56 C hw t0 dX3_makeEmpty_32 (fun H locs hw => ?_)
  rw [← e14] at hw
  refine r_aload_n C hl (kx := 0) rfl rfl dX3_makeEmpty_35 ?_
  refine r_iconst C dX3_makeEmpty_36 ?_
  obtain ⟨μ15, e16, hf⟩ := nm_some hf
  refine pf_3_59 C hw t0 dX3_makeEmpty_37 (fun H locs hw => ?_)
  rw [← e16] at hw
  refine r_aload_n C hl (kx := 0) rfl rfl dX3_makeEmpty_40 ?_
  refine gf_3_18 C hw t0 dX3_makeEmpty_41 ?_
  refine r_iconst C dX3_makeEmpty_44 ?_
  obtain ⟨r18, μ17, e19, hf⟩ := bn_some hf
  refine r_callSn C hw (K := [(2, (x0 + 3)), (0, 0)]) (c_J7_fill_53178 l D b e19) mi_J7_fill_53178 st_J7_fill_53178 kl_3_62 rfl rfl (lvh_sz hl) (by decide) (Kr := []) rfl (Nat.le_of_ble_eq_true rfl) dX3_makeEmpty_45 (fun H locs hw => ?_)
  refine r_aload_n C hl (kx := 0) rfl rfl dX3_makeEmpty_48 ?_
  refine gf_3_21 C hw t0 dX3_makeEmpty_49 ?_
  refine r_iconst C dX3_makeEmpty_52 ?_
  obtain ⟨r21, μ20, e22, hf⟩ := bn_some hf
  refine r_callSn C hw (K := [(2, (x0 + 4)), (0, 0)]) (c_J7_fill_53178 l D b e22) mi_J7_fill_53178 st_J7_fill_53178 kl_3_62 rfl rfl (lvh_sz hl) (by decide) (Kr := []) rfl (Nat.le_of_ble_eq_true rfl) dX3_makeEmpty_53 (fun H locs hw => ?_)
  refine r_aload_n C hl (kx := 0) rfl rfl dX3_makeEmpty_56 ?_
  refine gf_3_24 C hw t0 dX3_makeEmpty_57 ?_
  refine r_iconst C dX3_makeEmpty_60 ?_
  obtain ⟨r24, μ23, e25, hf⟩ := bn_some hf
  refine r_callSn C hw (K := [(2, (x0 + 5)), (0, 0)]) (c_J7_fill_53178 l D b e25) mi_J7_fill_53178 st_J7_fill_53178 kl_3_62 rfl rfl (lvh_sz hl) (by decide) (Kr := []) rfl (Nat.le_of_ble_eq_true rfl) dX3_makeEmpty_61 (fun H locs hw => ?_)
  refine r_aload_n C hl (kx := 0) rfl rfl dX3_makeEmpty_64 ?_
  refine gf_3_33 C hw t0 dX3_makeEmpty_65 ?_
  obtain ⟨r27, μ26, e28, hf⟩ := bn_some hf
  refine r_callVn C hw (K := []) ok4 (ow_3_14 t0) (c_X4_makeEmpty l D b (ow_3_14 t0) e28) mi_X4_makeEmpty in_X4_makeEmpty se_X4_makeEmpty kl_3_68 rfl rfl (lvh_sz hl) (by decide) (Kr := []) rfl (Nat.le_of_ble_eq_true rfl) dX3_makeEmpty_68 (fun H locs hw => ?_)
  exact r_vret C hw hf dX3_makeEmpty_71
theorem c_X3_makeEmpty (l : Launch) (D : Ds) (b : Nat) {x0 : Int} {μ μ' : Mem} {r : Int} (t0 : isK x0 3) (hf : f_X3_makeEmpty x0 μ = some (r, μ')) : Ctr l D b yX3_makeEmpty cX3_makeEmpty 1 (none) 2 [(2, x0)] μ none μ' := by
  refine Ctr.of (by decide +kernel) (Nat.le_of_ble_eq_true rfl) ?_
  intro p e s m below meth c C hw ls hl
  exact w_X3_makeEmpty_0 C hf t0 hw hl
set_option maxHeartbeats 4000000 in
set_option maxRecDepth 20000 in
theorem w_X3_hasPlace_0 (C : Cx p s m args meth c D b cX3_hasPlace 2 RX3 (some .boolean)) {r : Int} {μ' : Mem} {x0 x1 : Int} {μ : Mem} {H : Heap} {locs : List Loc} {ls : Array Slot} (hf : f_X3_hasPlace x0 x1 μ = some (r, μ')) (t0 : isK x0 3) (hw : Hw D b μ s.heap H locs) (hl : lvh b ls 2 [(0, 2, x0), (1, 0, x1)]) : W p l e (rm 0) s m args below meth c H locs 0 0 (QM below args s D b (some (.int (jI r))) μ') (F0 m 0 ls []) := by
  unfold f_X3_hasPlace at hf
  refine r_iload_n C hl (kx := 1) rfl rfl dX3_hasPlace_0 ?_
  refine r_if_lt C (tgt := 22) (by decide) dX3_hasPlace_1 (fun c1 => ?_) (fun c1 => ?_)
  · have hf := ite_t c1 hf
    refine r_iconst C dX3_hasPlace_22 ?_
    exact r_zret C hw (by decide) hf dX3_hasPlace_23
  · have hf := ite_f c1 hf
    refine r_iload_n C hl (kx := 1) rfl rfl dX3_hasPlace_4 ?_
    refine r_aload_n C hl (kx := 0) rfl rfl dX3_hasPlace_5 ?_
    refine gf_3_37 C hw t0 dX3_hasPlace_6 ?_
    refine r_icmp_ge C (tgt := 22) (by decide) dX3_hasPlace_9 (fun c2 => ?_) (fun c2 => ?_)
    · have hf := ite_t c2 hf
      refine r_iconst C dX3_hasPlace_22 ?_
      exact r_zret C hw (by decide) hf dX3_hasPlace_23
    · have hf := ite_f c2 hf
      refine r_iload_n C hl (kx := 1) rfl rfl dX3_hasPlace_12 ?_
      refine r_bipush C (by decide) dX3_hasPlace_13 ?_
      refine r_icmp_ge C (tgt := 22) (by decide) dX3_hasPlace_15 (fun c3 => ?_) (fun c3 => ?_)
      · have hf := ite_t c3 hf
        refine r_iconst C dX3_hasPlace_22 ?_
        exact r_zret C hw (by decide) hf dX3_hasPlace_23
      · have hf := ite_f c3 hf
        refine r_iconst C dX3_hasPlace_18 ?_
        refine r_goto C (tgt := 23) (by decide) dX3_hasPlace_19 ?_
        exact r_zret C hw (by decide) hf dX3_hasPlace_23
theorem c_X3_hasPlace (l : Launch) (D : Ds) (b : Nat) {x0 x1 : Int} {μ μ' : Mem} {r : Int} (t0 : isK x0 3) (hf : f_X3_hasPlace x0 x1 μ = some (r, μ')) : Ctr l D b yX3_hasPlace cX3_hasPlace 2 (some .boolean) 0 [(2, x0), (0, x1)] μ (some (.int (jI r))) μ' := by
  refine Ctr.of (by decide +kernel) (Nat.le_of_ble_eq_true rfl) ?_
  intro p e s m below meth c C hw ls hl
  exact w_X3_hasPlace_0 C hf t0 hw hl
set_option maxHeartbeats 4000000 in
set_option maxRecDepth 20000 in
theorem w_X3_comingFrom_84 (C : Cx p s m args meth c D b cX3_comingFrom 8 RX3 (some .int)) {r : Int} {μ' : Mem} (k7 : Int → Int → Int → Int → Mem → Option (Int × Mem)) (h7 : ∀ (x0 x2 x3 x4 : Int) (μ : Mem) (H : Heap) (locs : List Loc) (ls : Array Slot), k7 x0 x2 x3 x4 μ = some (r, μ') → isK x0 3 → Hw D b μ s.heap H locs → lvh b ls 8 [(0, 2, x0), (2, 0, x2), (3, 0, x3), (4, 0, x4)] → W p l e (rm 0) s m args below meth c H locs 0 0 (QM below args s D b (some (.int (jI r))) μ') (F0 m 7 ls [])) {x0 x2 x3 x4 x5 : Int} {μ : Mem} {H : Heap} {locs : List Loc} {ls : Array Slot} (hf : f_X3_comingFrom_j84 k7 x0 x2 x3 x4 x5 μ = some (r, μ')) (t0 : isK x0 3) (hw : Hw D b μ s.heap H locs) (hl : lvh b ls 8 [(0, 2, x0), (2, 0, x2), (3, 0, x3), (4, 0, x4), (5, 0, x5)]) : W p l e (rm 0) s m args below meth c H locs 0 0 (QM below args s D b (some (.int (jI r))) μ') (F0 m 84 ls []) := by
  unfold f_X3_comingFrom_j84 at hf
  refine r_iload_n C hl (kx := 2) rfl rfl dX3_comingFrom_84 ?_
  refine r_iload C hl (kx := 4) rfl dX3_comingFrom_85 ?_
  refine r_icmp_ne C (tgt := 93) (by decide) dX3_comingFrom_87 (fun c1 => ?_) (fun c1 => ?_)
  · have hf := ite_f c1 hf
    refine r_iinc C hl (kx := 3) rfl (by decide) (L' := [(4, 0, (x4 + 1)), (0, 2, x0), (2, 0, x2), (3, 0, x3), (5, 0, x5)]) rfl dX3_comingFrom_93 (fun ls hl => ?_)
    refine r_goto C (tgt := 7) (by decide) dX3_comingFrom_96 ?_
    exact h7 _ _ _ _ _ _ _ _ hf t0 hw (lvh_sub hl [1, 2, 3, 0] rfl)
  · have hf := ite_t c1 hf
    refine r_goto C (tgt := 99) (by decide) dX3_comingFrom_90 ?_
    refine r_iload_n C hl (kx := 2) rfl rfl dX3_comingFrom_99 ?_
    exact r_iret C hw hf dX3_comingFrom_100
set_option maxHeartbeats 4000000 in
set_option maxRecDepth 20000 in
theorem w_X3_comingFrom_78 (C : Cx p s m args meth c D b cX3_comingFrom 8 RX3 (some .int)) {r : Int} {μ' : Mem} (k7 : Int → Int → Int → Int → Mem → Option (Int × Mem)) (h7 : ∀ (x0 x2 x3 x4 : Int) (μ : Mem) (H : Heap) (locs : List Loc) (ls : Array Slot), k7 x0 x2 x3 x4 μ = some (r, μ') → isK x0 3 → Hw D b μ s.heap H locs → lvh b ls 8 [(0, 2, x0), (2, 0, x2), (3, 0, x3), (4, 0, x4)] → W p l e (rm 0) s m args below meth c H locs 0 0 (QM below args s D b (some (.int (jI r))) μ') (F0 m 7 ls [])) (k20 : Int → Int → Int → Int → Int → Int → Mem → Option (Int × Mem)) (h20 : ∀ (x0 x2 x3 x4 x5 x6 : Int) (μ : Mem) (H : Heap) (locs : List Loc) (ls : Array Slot), k20 x0 x2 x3 x4 x5 x6 μ = some (r, μ') → isK x0 3 → Hw D b μ s.heap H locs → lvh b ls 8 [(0, 2, x0), (2, 0, x2), (3, 0, x3), (4, 0, x4), (5, 0, x5), (6, 0, x6)] → W p l e (rm 0) s m args below meth c H locs 0 0 (QM below args s D b (some (.int (jI r))) μ') (F0 m 20 ls [])) {x0 x2 x3 x4 x5 x6 : Int} {μ : Mem} {H : Heap} {locs : List Loc} {ls : Array Slot} (hf : f_X3_comingFrom_j78 k7 k20 x0 x2 x3 x4 x5 x6 μ = some (r, μ')) (t0 : isK x0 3) (hw : Hw D b μ s.heap H locs) (hl : lvh b ls 8 [(0, 2, x0), (2, 0, x2), (3, 0, x3), (4, 0, x4), (5, 0, x5), (6, 0, x6)]) : W p l e (rm 0) s m args below meth c H locs 0 0 (QM below args s D b (some (.int (jI r))) μ') (F0 m 78 ls []) := by
  unfold f_X3_comingFrom_j78 at hf
  refine r_iinc C hl (kx := 5) rfl (by decide) (L' := [(6, 0, (x6 + 1)), (0, 2, x0), (2, 0, x2), (3, 0, x3), (4, 0, x4), (5, 0, x5)]) rfl dX3_comingFrom_78 (fun ls hl => ?_)
  refine r_goto C (tgt := 20) (by decide) dX3_comingFrom_81 ?_
  exact h20 _ _ _ _ _ _ _ _ _ _ hf t0 hw (lvh_sub hl [1, 2, 3, 4, 5, 0] rfl)
set_option maxHeartbeats 4000000 in
set_option maxRecDepth 20000 in
theorem w_X3_comingFrom_20 (C : Cx p s m args meth c D b cX3_comingFrom 8 RX3 (some .int)) {r : Int} {μ' : Mem} (k7 : Int → Int → Int → Int → Mem → Option (Int × Mem)) (h7 : ∀ (x0 x2 x3 x4 : Int) (μ : Mem) (H : Heap) (locs : List Loc) (ls : Array Slot), k7 x0 x2 x3 x4 μ = some (r, μ') → isK x0 3 → Hw D b μ s.heap H locs → lvh b ls 8 [(0, 2, x0), (2, 0, x2), (3, 0, x3), (4, 0, x4)] → W p l e (rm 0) s m args below meth c H locs 0 0 (QM below args s D b (some (.int (jI r))) μ') (F0 m 7 ls [])) : ∀ (n : Nat) (x0 x2 x3 x4 x5 x6 : Int) (μ : Mem) (H : Heap) (locs : List Loc) (ls : Array Slot), f_X3_comingFrom_w20 k7 n x0 x2 x3 x4 x5 x6 μ = some (r, μ') → isK x0 3 → Hw D b μ s.heap H locs → lvh b ls 8 [(0, 2, x0), (2, 0, x2), (3, 0, x3), (4, 0, x4), (5, 0, x5), (6, 0, x6)] → W p l e (rm 0) s m args below meth c H locs 0 0 (QM below args s D b (some (.int (jI r))) μ') (F0 m 20 ls []) := by
  intro n
  induction n with
  | zero => intro x0 x2 x3 x4 x5 x6 μ H locs ls hf; cases hf
  | succ n ih =>
    intro x0 x2 x3 x4 x5 x6 μ H locs ls hf t0 hw hl
    rw [f_X3_comingFrom_w20.eq_2] at hf
    refine r_iload C hl (kx := 5) rfl dX3_comingFrom_20 ?_
    refine r_aload_n C hl (kx := 0) rfl rfl dX3_comingFrom_22 ?_
    refine gf_3_41 C hw t0 dX3_comingFrom_23 ?_
    refine r_icmp_ge C (tgt := 84) (by decide) dX3_comingFrom_26 (fun c1 => ?_) (fun c1 => ?_)
    · have hf := ite_t c1 hf
      exact w_X3_comingFrom_84 C _ h7 hf t0 hw (lvh_sub hl [0, 1, 2, 3, 4] rfl)
    · have hf := ite_f c1 hf
      refine r_iload C hl (kx := 5) rfl dX3_comingFrom_29 ?_
      refine r_bipush C (by decide) dX3_comingFrom_31 ?_
      refine r_icmp_ge C (tgt := 84) (by decide) dX3_comingFrom_33 (fun c2 => ?_) (fun c2 => ?_)
      · have hf := ite_t c2 hf
        exact w_X3_comingFrom_84 C _ h7 hf t0 hw (lvh_sub hl [0, 1, 2, 3, 4] rfl)
      · have hf := ite_f c2 hf
        refine r_iconst C dX3_comingFrom_36 ?_
        refine r_aload_n C hl (kx := 0) rfl rfl dX3_comingFrom_37 ?_
        refine gf_3_9 C hw t0 dX3_comingFrom_38 ?_
        refine r_iload C hl (kx := 5) rfl dX3_comingFrom_41 ?_
        obtain ⟨g3, hf⟩ := gd_some hf
        refine r_iald C hw (n := 9) (ow_3_8 t0) (j := (nrm x6)) rfl g3 (by decide) dX3_comingFrom_43 ?_
        refine r_ishl C dX3_comingFrom_44 ?_
        refine r_iconst C dX3_comingFrom_45 ?_
        refine r_aload_n C hl (kx := 0) rfl rfl dX3_comingFrom_46 ?_
        refine gf_3_15 C hw t0 dX3_comingFrom_47 ?_
        refine r_iload C hl (kx := 5) rfl dX3_comingFrom_50 ?_
        obtain ⟨g4, hf⟩ := gd_some hf
        refine r_iald C hw (n := 9) (ow_3_9 t0) (j := (nrm x6)) rfl g4 (by decide) dX3_comingFrom_52 ?_
        refine r_ishl C dX3_comingFrom_53 ?_
        refine r_ior C dX3_comingFrom_54 ?_
        obtain ⟨v5, e6, hf⟩ := nm_some hf
        refine top_i e6 ?_
        refine r_istore C hl (by decide) (L' := [(7, 0, v5), (0, 2, x0), (2, 0, x2), (3, 0, x3), (4, 0, x4), (5, 0, x5), (6, 0, x6)]) rfl dX3_comingFrom_55 (fun ls hl => ?_)
        refine r_iload_n C hl (kx := 2) rfl rfl dX3_comingFrom_57 ?_
        refine r_iload C hl (kx := 6) rfl dX3_comingFrom_58 ?_
        refine r_ishr C dX3_comingFrom_60 ?_
        refine r_iconst C dX3_comingFrom_61 ?_
        refine r_iand C dX3_comingFrom_62 ?_
        refine r_if_eq C (tgt := 78) (by decide) dX3_comingFrom_63 (fun c7 => ?_) (fun c7 => ?_)
        · have hf := ite_t c7 hf
          exact w_X3_comingFrom_78 C _ h7 _ ih hf t0 hw (lvh_sub hl [1, 2, 3, 4, 5, 6] rfl)
        · have hf := ite_f c7 hf
          refine r_iload_n C hl (kx := 3) rfl rfl dX3_comingFrom_66 ?_
          refine r_iload C hl (kx := 0) rfl dX3_comingFrom_67 ?_
          refine r_iand C dX3_comingFrom_69 ?_
          refine r_if_eq C (tgt := 78) (by decide) dX3_comingFrom_70 (fun c8 => ?_) (fun c8 => ?_)
          · have hf := ite_t c8 hf
            exact w_X3_comingFrom_78 C _ h7 _ ih hf t0 hw (lvh_sub hl [1, 2, 3, 4, 5, 6] rfl)
          · have hf := ite_f c8 hf
            refine r_iload_n C hl (kx := 3) rfl rfl dX3_comingFrom_73 ?_
            refine r_iload C hl (kx := 0) rfl dX3_comingFrom_74 ?_
            refine r_ior C dX3_comingFrom_76 ?_
            obtain ⟨v9, e10, hf⟩ := nm_some hf
            refine top_i e10 ?_
            refine r_istore_n C hl (by decide) (L' := [(3, 0, v9), (7, 0, v5), (0, 2, x0), (2, 0, x2), (4, 0, x4), (5, 0, x5), (6, 0, x6)]) rfl rfl dX3_comingFrom_77 (fun ls hl => ?_)
            exact w_X3_comingFrom_78 C _ h7 _ ih hf t0 hw (lvh_sub hl [2, 3, 0, 4, 5, 6] rfl)
set_option maxHeartbeats 4000000 in
set_option maxRecDepth 20000 in
theorem w_X3_comingFrom_7 (C : Cx p s m args meth c D b cX3_comingFrom 8 RX3 (some .int)) {r : Int} {μ' : Mem} : ∀ (n : Nat) (x0 x2 x3 x4 : Int) (μ : Mem) (H : Heap) (locs : List Loc) (ls : Array Slot), f_X3_comingFrom_w7 n x0 x2 x3 x4 μ = some (r, μ') → isK x0 3 → Hw D b μ s.heap H locs → lvh b ls 8 [(0, 2, x0), (2, 0, x2), (3, 0, x3), (4, 0, x4)] → W p l e (rm 0) s m args below meth c H locs 0 0 (QM below args s D b (some (.int (jI r))) μ') (F0 m 7 ls []) := by
  intro n
  induction n with
  | zero => intro x0 x2 x3 x4 μ H locs ls hf; cases hf
  | succ n ih =>
    intro x0 x2 x3 x4 μ H locs ls hf t0 hw hl
    rw [f_X3_comingFrom_w7.eq_2] at hf
    refine r_iload C hl (kx := 3) rfl dX3_comingFrom_7 ?_
    refine r_bipush C (by decide) dX3_comingFrom_9 ?_
    refine r_icmp_ge C (tgt := 99) (by decide) dX3_comingFrom_11 (fun c1 => ?_) (fun c1 => ?_)
    · have hf := ite_t c1 hf
      refine r_iload_n C hl (kx := 2) rfl rfl dX3_comingFrom_99 ?_
      exact r_iret C hw hf dX3_comingFrom_100
    · have hf := ite_f c1 hf
      refine r_iload_n C hl (kx := 2) rfl rfl dX3_comingFrom_14 ?_
      refine r_istore C hl (by decide) (L' := [(5, 0, x3), (0, 2, x0), (2, 0, x2), (3, 0, x3), (4, 0, x4)]) rfl dX3_comingFrom_15 (fun ls hl => ?_)
      refine r_iconst C dX3_comingFrom_17 ?_
      refine r_istore C hl (by decide) (L' := [(6, 0, 0), (5, 0, x3), (0, 2, x0), (2, 0, x2), (3, 0, x3), (4, 0, x4)]) rfl dX3_comingFrom_18 (fun ls hl => ?_)
      exact w_X3_comingFrom_20 C _ ih FU _ _ _ _ _ _ _ _ _ _ hf t0 hw (lvh_sub hl [2, 3, 4, 5, 1, 0] rfl)
set_option maxHeartbeats 4000000 in
set_option maxRecDepth 20000 in
theorem w_X3_comingFrom_0 (C : Cx p s m args meth c D b cX3_comingFrom 8 RX3 (some .int)) {r : Int} {μ' : Mem} {x0 x1 x2 : Int} {μ : Mem} {H : Heap} {locs : List Loc} {ls : Array Slot} (hf : f_X3_comingFrom x0 x1 x2 μ = some (r, μ')) (t0 : isK x0 3) (hw : Hw D b μ s.heap H locs) (hl : lvh b ls 8 [(0, 2, x0), (1, 0, x1), (2, 0, x2)]) : W p l e (rm 0) s m args below meth c H locs 0 0 (QM below args s D b (some (.int (jI r))) μ') (F0 m 0 ls []) := by
  unfold f_X3_comingFrom at hf
  refine r_iconst C dX3_comingFrom_0 ?_
  refine r_iload_n C hl (kx := 1) rfl rfl dX3_comingFrom_1 ?_
  refine r_ishl C dX3_comingFrom_2 ?_
  obtain ⟨v1, e2, hf⟩ := nm_some hf
  refine top_i e2 ?_
  refine r_istore_n C hl (by decide) (L' := [(3, 0, v1), (0, 2, x0), (1, 0, x1), (2, 0, x2)]) rfl rfl dX3_comingFrom_3 (fun ls hl => ?_)
  refine r_iconst C dX3_comingFrom_4 ?_
  refine r_istore C hl (by decide) (L' := [(4, 0, 0), (3, 0, v1), (0, 2, x0), (1, 0, x1), (2, 0, x2)]) rfl dX3_comingFrom_5 (fun ls hl => ?_)
  exact w_X3_comingFrom_7 C FU _ _ _ _ _ _ _ _ hf t0 hw (lvh_sub hl [2, 4, 1, 0] rfl)
theorem c_X3_comingFrom (l : Launch) (D : Ds) (b : Nat) {x0 x1 x2 : Int} {μ μ' : Mem} {r : Int} (t0 : isK x0 3) (hf : f_X3_comingFrom x0 x1 x2 μ = some (r, μ')) : Ctr l D b yX3_comingFrom cX3_comingFrom 8 (some .int) 0 [(2, x0), (0, x1), (0, x2)] μ (some (.int (jI r))) μ' := by
  refine Ctr.of (by decide +kernel) (Nat.le_of_ble_eq_true rfl) ?_
  intro p e s m below meth c C hw ls hl
  exact w_X3_comingFrom_0 C hf t0 hw hl
set_option maxHeartbeats 4000000 in
set_option maxRecDepth 20000 in
theorem w_X3_backInTheEnd_4 (C : Cx p s m args meth c D b cX3_backInTheEnd 4 RX3 (some .int)) {r : Int} {μ' : Mem} : ∀ (n : Nat) (x0 x2 x3 : Int) (μ : Mem) (H : Heap) (locs : List Loc) (ls : Array Slot), f_X3_backInTheEnd_w4 n x0 x2 x3 μ = some (r, μ') → isK x0 3 → Hw D b μ s.heap H locs → lvh b ls 4 [(0, 2, x0), (2, 0, x2), (3, 0, x3)] → W p l e (rm 2) s m args below meth c H locs 0 0 (QM below args s D b (some (.int (jI r))) μ') (F0 m 4 ls []) := by
  intro n
  induction n with
  | zero => intro x0 x2 x3 μ H locs ls hf; cases hf
  | succ n ih =>
    intro x0 x2 x3 μ H locs ls hf t0 hw hl
    rw [f_X3_backInTheEnd_w4.eq_2] at hf
    refine r_iload_n C hl (kx := 2) rfl rfl dX3_backInTheEnd_4 ?_
    refine r_bipush C (by decide) dX3_backInTheEnd_5 ?_
    refine r_icmp_ge C (tgt := 22) (by decide) dX3_backInTheEnd_7 (fun c1 => ?_) (fun c1 => ?_)
    · have hf := ite_t c1 hf
      refine r_iload_n C hl (kx := 1) rfl rfl dX3_backInTheEnd_22 ?_
      exact r_iret C hw hf dX3_backInTheEnd_23
    · have hf := ite_f c1 hf
      refine r_aload_n C hl (kx := 0) rfl rfl dX3_backInTheEnd_10 ?_
      refine r_iload_n C hl (kx := 1) rfl rfl dX3_backInTheEnd_11 ?_
      obtain ⟨r3, μ2, e4, hf⟩ := bn_some hf
      refine r_callVv C hw (K := [(0, x2)]) ok3 t0 (c_X3_backBehindSeason l D b t0 e4) mi_X3_backBehindSeason in_X3_backBehindSeason se_X3_backBehindSeason kl_3_104 rfl rfl (lvh_sz hl) (by decide) (Kr := []) rfl (Nat.le_of_ble_eq_true rfl) dX3_backInTheEnd_12 (fun H locs hw => ?_)
      refine r_istore_n C hl (by decide) (L' := [(2, 0, r3), (0, 2, x0), (3, 0, x3)]) rfl rfl dX3_backInTheEnd_15 (fun ls hl => ?_)
      refine r_iinc C hl (kx := 2) rfl (by decide) (L' := [(3, 0, (x3 + 1)), (2, 0, r3), (0, 2, x0)]) rfl dX3_backInTheEnd_16 (fun ls hl => ?_)
      refine r_goto C (tgt := 4) (by decide) dX3_backInTheEnd_19 ?_
      exact ih _ _ _ _ _ _ _ hf t0 hw (lvh_sub hl [2, 1, 0] rfl)
set_option maxHeartbeats 4000000 in
set_option maxRecDepth 20000 in
theorem w_X3_backInTheEnd_0 (C : Cx p s m args meth c D b cX3_backInTheEnd 4 RX3 (some .int)) {r : Int} {μ' : Mem} {x0 x1 : Int} {μ : Mem} {H : Heap} {locs : List Loc} {ls : Array Slot} (hf : f_X3_backInTheEnd x0 x1 μ = some (r, μ')) (t0 : isK x0 3) (hw : Hw D b μ s.heap H locs) (hl : lvh b ls 4 [(0, 2, x0), (1, 0, x1)]) : W p l e (rm 2) s m args below meth c H locs 0 0 (QM below args s D b (some (.int (jI r))) μ') (F0 m 0 ls []) := by
  unfold f_X3_backInTheEnd at hf
  refine r_iload_n C hl (kx := 1) rfl rfl dX3_backInTheEnd_0 ?_
  refine r_istore_n C hl (by decide) (L' := [(2, 0, x1), (0, 2, x0), (1, 0, x1)]) rfl rfl dX3_backInTheEnd_1 (fun ls hl => ?_)
  refine r_iconst C dX3_backInTheEnd_2 ?_
  refine r_istore_n C hl (by decide) (L' := [(3, 0, 0), (2, 0, x1), (0, 2, x0), (1, 0, x1)]) rfl rfl dX3_backInTheEnd_3 (fun ls hl => ?_)
  exact w_X3_backInTheEnd_4 C FU _ _ _ _ _ _ _ hf t0 hw (lvh_sub hl [2, 1, 0] rfl)
theorem c_X3_backInTheEnd (l : Launch) (D : Ds) (b : Nat) {x0 x1 : Int} {μ μ' : Mem} {r : Int} (t0 : isK x0 3) (hf : f_X3_backInTheEnd x0 x1 μ = some (r, μ')) : Ctr l D b yX3_backInTheEnd cX3_backInTheEnd 4 (some .int) 2 [(2, x0), (0, x1)] μ (some (.int (jI r))) μ' := by
  refine Ctr.of (by decide +kernel) (Nat.le_of_ble_eq_true rfl) ?_
  intro p e s m below meth c C hw ls hl
  exact w_X3_backInTheEnd_0 C hf t0 hw hl
set_option maxHeartbeats 4000000 in
set_option maxRecDepth 20000 in
theorem w_X4_stepsNow_0 (C : Cx p s m args meth c D b cX4_stepsNow 1 RX4 (some .int)) {r : Int} {μ' : Mem} {x0 : Int} {μ : Mem} {H : Heap} {locs : List Loc} {ls : Array Slot} (hf : f_X4_stepsNow x0 μ = some (r, μ')) (t0 : isK x0 4) (hw : Hw D b μ s.heap H locs) (hl : lvh b ls 1 [(0, 2, x0)]) : W p l e (rm 0) s m args below meth c H locs 0 0 (QM below args s D b (some (.int (jI r))) μ') (F0 m 0 ls []) := by
  unfold f_X4_stepsNow at hf
  refine r_aload_n C hl (kx := 0) rfl rfl dX4_stepsNow_0 ?_
  refine gf_4_27 C hw t0 dX4_stepsNow_1 ?_
  exact r_iret C hw hf dX4_stepsNow_4
theorem c_X4_stepsNow (l : Launch) (D : Ds) (b : Nat) {x0 : Int} {μ μ' : Mem} {r : Int} (t0 : isK x0 4) (hf : f_X4_stepsNow x0 μ = some (r, μ')) : Ctr l D b yX4_stepsNow cX4_stepsNow 1 (some .int) 0 [(2, x0)] μ (some (.int (jI r))) μ' := by
  refine Ctr.of (by decide +kernel) (Nat.le_of_ble_eq_true rfl) ?_
  intro p e s m below meth c C hw ls hl
  exact w_X4_stepsNow_0 C hf t0 hw hl
set_option maxHeartbeats 4000000 in
set_option maxRecDepth 20000 in
theorem w_X4_addStep_0 (C : Cx p s m args meth c D b cX4_addStep 3 RX4 (none)) {r : Int} {μ' : Mem} {x0 x1 x2 : Int} {μ : Mem} {H : Heap} {locs : List Loc} {ls : Array Slot} (hf : f_X4_addStep x0 x1 x2 μ = some (r, μ')) (t0 : isK x0 4) (hw : Hw D b μ s.heap H locs) (hl : lvh b ls 3 [(0, 2, x0), (1, 0, x1), (2, 0, x2)]) : W p l e (rm 0) s m args below meth c H locs 0 0 (QM below args s D b none μ') (F0 m 0 ls []) := by
  unfold f_X4_addStep at hf
  refine r_aload_n C hl (kx := 0) rfl rfl dX4_addStep_0 ?_
  refine gf_4_27 C hw t0 dX4_addStep_1 ?_
  refine r_if_lt C (tgt := 45) (by decide) dX4_addStep_4 (fun c1 => ?_) (fun c1 => ?_)
  · have hf := ite_t c1 hf
    exact r_vret C hw hf dX4_addStep_45
  · have hf := ite_f c1 hf
    refine r_aload_n C hl (kx := 0) rfl rfl dX4_addStep_7 ?_
    refine gf_4_27 C hw t0 dX4_addStep_8 ?_
    refine r_aload_n C hl (kx := 0) rfl rfl dX4_addStep_11 ?_
    refine gf_4_9 C hw t0 dX4_addStep_12 ?_
    refine r_alen1 C hw (n := 900) (ow_4_0 t0) (by decide) (z := 900) rfl dX4_addStep_15 ?_
    refine r_icmp_ge C (tgt := 45) (by decide) dX4_addStep_16 (fun c2 => ?_) (fun c2 => ?_)
    · have hf := ite_t c2 hf
      exact r_vret C hw hf dX4_addStep_45
    · have hf := ite_f c2 hf
      refine r_aload_n C hl (kx := 0) rfl rfl dX4_addStep_19 ?_
      refine gf_4_9 C hw t0 dX4_addStep_20 ?_
      refine r_aload_n C hl (kx := 0) rfl rfl dX4_addStep_23 ?_
      refine gf_4_27 C hw t0 dX4_addStep_24 ?_
      refine r_iload_n C hl (kx := 1) rfl rfl dX4_addStep_27 ?_
      refine r_sipush C (by decide) dX4_addStep_28 ?_
      refine r_imul C dX4_addStep_31 ?_
      refine r_iload_n C hl (kx := 2) rfl rfl dX4_addStep_32 ?_
      refine r_iadd C dX4_addStep_33 ?_
      obtain ⟨g5, hf⟩ := gd_some hf
      obtain ⟨μ3, e4, hf⟩ := nm_some hf
      refine r_iast C hw (n := 900) (ow_4_0 t0) (j := (nrm (μ x0 1))) rfl g5 (by decide) dX4_addStep_34 (fun H locs hw => ?_)
      rw [← e4] at hw
      refine r_aload_n C hl (kx := 0) rfl rfl dX4_addStep_35 ?_
      refine r_dup C (rfv_cat _ _) dX4_addStep_36 ?_
      refine gf_4_27 C hw t0 dX4_addStep_37 ?_
      refine r_iconst C dX4_addStep_40 ?_
      refine r_iadd C dX4_addStep_41 ?_
      obtain ⟨μ6, e7, hf⟩ := nm_some hf
      refine pf_4_27 C hw t0 dX4_addStep_42 (fun H locs hw => ?_)
      rw [← e7] at hw
      exact r_vret C hw hf dX4_addStep_45
theorem c_X4_addStep (l : Launch) (D : Ds) (b : Nat) {x0 x1 x2 : Int} {μ μ' : Mem} {r : Int} (t0 : isK x0 4) (hf : f_X4_addStep x0 x1 x2 μ = some (r, μ')) : Ctr l D b yX4_addStep cX4_addStep 3 (none) 0 [(2, x0), (0, x1), (0, x2)] μ none μ' := by
  refine Ctr.of (by decide +kernel) (Nat.le_of_ble_eq_true rfl) ?_
  intro p e s m below meth c C hw ls hl
  exact w_X4_addStep_0 C hf t0 hw hl
set_option maxHeartbeats 4000000 in
set_option maxRecDepth 20000 in
theorem w_X4_enact_0 (C : Cx p s m args meth c D b cX4_enact 3 RX4 (none)) {r : Int} {μ' : Mem} {x0 x1 x2 : Int} {μ : Mem} {H : Heap} {locs : List Loc} {ls : Array Slot} (hf : f_X4_enact x0 x1 x2 μ = some (r, μ')) (t0 : isK x0 4) (hw : Hw D b μ s.heap H locs) (hl : lvh b ls 3 [(0, 2, x0), (1, 0, x1), (2, 0, x2)]) : W p l e (rm 0) s m args below meth c H locs 0 0 (QM below args s D b none μ') (F0 m 0 ls []) := by
  unfold f_X4_enact at hf
  refine r_iload_n C hl (kx := 1) rfl rfl dX4_enact_0 ?_
  refine r_if_lt C (tgt := 26) (by decide) dX4_enact_1 (fun c1 => ?_) (fun c1 => ?_)
  · have hf := ite_t c1 hf
    exact r_vret C hw hf dX4_enact_26
  · have hf := ite_f c1 hf
    refine r_iload_n C hl (kx := 1) rfl rfl dX4_enact_4 ?_
    refine r_iconst C dX4_enact_5 ?_
    refine r_icmp_ge C (tgt := 26) (by decide) dX4_enact_6 (fun c2 => ?_) (fun c2 => ?_)
    · have hf := ite_t c2 hf
      exact r_vret C hw hf dX4_enact_26
    · have hf := ite_f c2 hf
      refine r_aload_n C hl (kx := 0) rfl rfl dX4_enact_9 ?_
      refine gf_4_15 C hw t0 dX4_enact_10 ?_
      refine r_iload_n C hl (kx := 1) rfl rfl dX4_enact_13 ?_
      refine r_iload_n C hl (kx := 2) rfl rfl dX4_enact_14 ?_
      obtain ⟨g5, hf⟩ := gd_some hf
      obtain ⟨μ3, e4, hf⟩ := nm_some hf
      refine r_iast C hw (n := 2) (ow_4_2 t0) (j := (nrm x1)) rfl g5 (by decide) dX4_enact_15 (fun H locs hw => ?_)
      rw [← e4] at hw
      refine r_aload_n C hl (kx := 0) rfl rfl dX4_enact_16 ?_
      refine gf_4_18 C hw t0 dX4_enact_17 ?_
      refine r_iload_n C hl (kx := 1) rfl rfl dX4_enact_20 ?_
      refine r_aload_n C hl (kx := 0) rfl rfl dX4_enact_21 ?_
      refine gf_4_27 C hw t0 dX4_enact_22 ?_
      obtain ⟨g8, hf⟩ := gd_some hf
      obtain ⟨μ6, e7, hf⟩ := nm_some hf
      refine r_iast C hw (n := 2) (ow_4_3 t0) (j := (nrm x1)) rfl g8 (by decide) dX4_enact_25 (fun H locs hw => ?_)
      rw [← e7] at hw
      exact r_vret C hw hf dX4_enact_26
theorem c_X4_enact (l : Launch) (D : Ds) (b : Nat) {x0 x1 x2 : Int} {μ μ' : Mem} {r : Int} (t0 : isK x0 4) (hf : f_X4_enact x0 x1 x2 μ = some (r, μ')) : Ctr l D b yX4_enact cX4_enact 3 (none) 0 [(2, x0), (0, x1), (0, x2)] μ none μ' := by
  refine Ctr.of (by decide +kernel) (Nat.le_of_ble_eq_true rfl) ?_
  intro p e s m below meth c C hw ls hl
  exact w_X4_enact_0 C hf t0 hw hl
set_option maxHeartbeats 4000000 in
set_option maxRecDepth 20000 in
theorem w_X5_aboveAt_0 (C : Cx p s m args meth c D b cX5_aboveAt 2 RX5 (some .int)) {r : Int} {μ' : Mem} {x0 x1 : Int} {μ : Mem} {H : Heap} {locs : List Loc} {ls : Array Slot} (hf : f_X5_aboveAt x0 x1 μ = some (r, μ')) (t0 : isK x0 5) (hw : Hw D b μ s.heap H locs) (hl : lvh b ls 2 [(0, 2, x0), (1, 0, x1)]) : W p l e (rm 0) s m args below meth c H locs 0 0 (QM below args s D b (some (.int (jI r))) μ') (F0 m 0 ls []) := by
  unfold f_X5_aboveAt at hf
  refine r_iload_n C hl (kx := 1) rfl rfl dX5_aboveAt_0 ?_
  refine r_if_lt C (tgt := 10) (by decide) dX5_aboveAt_1 (fun c1 => ?_) (fun c1 => ?_)
  · have hf := ite_t c1 hf
    refine r_iconst C dX5_aboveAt_10 ?_
    refine r_goto C (tgt := 20) (by decide) dX5_aboveAt_11 ?_
    exact r_iret C hw hf dX5_aboveAt_20
  · have hf := ite_f c1 hf
    refine r_iload_n C hl (kx := 1) rfl rfl dX5_aboveAt_4 ?_
    refine r_bipush C (by decide) dX5_aboveAt_5 ?_
    refine r_icmp_lt C (tgt := 14) (by decide) dX5_aboveAt_7 (fun c2 => ?_) (fun c2 => ?_)
    · have hf := ite_t c2 hf
      refine r_aload_n C hl (kx := 0) rfl rfl dX5_aboveAt_14 ?_
      refine gf_5_9 C hw t0 dX5_aboveAt_15 ?_
      refine r_iload_n C hl (kx := 1) rfl rfl dX5_aboveAt_18 ?_
      obtain ⟨g3, hf⟩ := gd_some hf
      obtain ⟨g4, hf⟩ := gd_some hf
      refine r_iald C hw (n := 7) g3 (j := (nrm x1)) rfl g4 (by decide) dX5_aboveAt_19 ?_
      exact r_iret C hw hf dX5_aboveAt_20
    · have hf := ite_f c2 hf
      refine r_iconst C dX5_aboveAt_10 ?_
      refine r_goto C (tgt := 20) (by decide) dX5_aboveAt_11 ?_
      exact r_iret C hw hf dX5_aboveAt_20
theorem c_X5_aboveAt (l : Launch) (D : Ds) (b : Nat) {x0 x1 : Int} {μ μ' : Mem} {r : Int} (t0 : isK x0 5) (hf : f_X5_aboveAt x0 x1 μ = some (r, μ')) : Ctr l D b yX5_aboveAt cX5_aboveAt 2 (some .int) 0 [(2, x0), (0, x1)] μ (some (.int (jI r))) μ' := by
  refine Ctr.of (by decide +kernel) (Nat.le_of_ble_eq_true rfl) ?_
  intro p e s m below meth c C hw ls hl
  exact w_X5_aboveAt_0 C hf t0 hw hl
set_option maxHeartbeats 4000000 in
set_option maxRecDepth 20000 in
theorem w_X5_belowAll_0 (C : Cx p s m args meth c D b cX5_belowAll 1 RX5 (some .int)) {r : Int} {μ' : Mem} {x0 : Int} {μ : Mem} {H : Heap} {locs : List Loc} {ls : Array Slot} (hf : f_X5_belowAll x0 μ = some (r, μ')) (t0 : isK x0 5) (hw : Hw D b μ s.heap H locs) (hl : lvh b ls 1 [(0, 2, x0)]) : W p l e (rm 0) s m args below meth c H locs 0 0 (QM below args s D b (some (.int (jI r))) μ') (F0 m 0 ls []) := by
  unfold f_X5_belowAll at hf
  refine r_aload_n C hl (kx := 0) rfl rfl dX5_belowAll_0 ?_
  refine gf_5_18 C hw t0 dX5_belowAll_1 ?_
  exact r_iret C hw hf dX5_belowAll_4
theorem c_X5_belowAll (l : Launch) (D : Ds) (b : Nat) {x0 : Int} {μ μ' : Mem} {r : Int} (t0 : isK x0 5) (hf : f_X5_belowAll x0 μ = some (r, μ')) : Ctr l D b yX5_belowAll cX5_belowAll 1 (some .int) 0 [(2, x0)] μ (some (.int (jI r))) μ' := by
  refine Ctr.of (by decide +kernel) (Nat.le_of_ble_eq_true rfl) ?_
  intro p e s m below meth c C hw ls hl
  exact w_X5_belowAll_0 C hf t0 hw hl
set_option maxHeartbeats 4000000 in
set_option maxRecDepth 20000 in
theorem w_X5_putWhole_0 (C : Cx p s m args meth c D b cX5_putWhole 2 RX5 (none)) {r : Int} {μ' : Mem} {x0 x1 : Int} {μ : Mem} {H : Heap} {locs : List Loc} {ls : Array Slot} (hf : f_X5_putWhole x0 x1 μ = some (r, μ')) (t0 : isK x0 5) (hw : Hw D b μ s.heap H locs) (hl : lvh b ls 2 [(0, 2, x0), (1, 0, x1)]) : W p l e (rm 0) s m args below meth c H locs 0 0 (QM below args s D b none μ') (F0 m 0 ls []) := by
  unfold f_X5_putWhole at hf
  refine r_iload_n C hl (kx := 1) rfl rfl dX5_putWhole_0 ?_
  refine r_if_lt C (tgt := 20) (by decide) dX5_putWhole_1 (fun c1 => ?_) (fun c1 => ?_)
  · have hf := ite_t c1 hf
    exact r_vret C hw hf dX5_putWhole_20
  · have hf := ite_f c1 hf
    refine r_iload_n C hl (kx := 1) rfl rfl dX5_putWhole_4 ?_
    refine r_bipush C (by decide) dX5_putWhole_5 ?_
    refine r_icmp_ge C (tgt := 20) (by decide) dX5_putWhole_7 (fun c2 => ?_) (fun c2 => ?_)
    · have hf := ite_t c2 hf
      exact r_vret C hw hf dX5_putWhole_20
    · have hf := ite_f c2 hf
      refine r_aload_n C hl (kx := 0) rfl rfl dX5_putWhole_10 ?_
      refine gf_5_9 C hw t0 dX5_putWhole_11 ?_
      refine r_iload_n C hl (kx := 1) rfl rfl dX5_putWhole_14 ?_
      refine r_aload_n C hl (kx := 0) rfl rfl dX5_putWhole_15 ?_
      refine gf_5_18 C hw t0 dX5_putWhole_16 ?_
      obtain ⟨g5, hf⟩ := gd_some hf
      obtain ⟨g6, hf⟩ := gd_some hf
      obtain ⟨μ3, e4, hf⟩ := nm_some hf
      refine r_iast C hw (n := 7) g5 (j := (nrm x1)) rfl g6 (by decide) dX5_putWhole_19 (fun H locs hw => ?_)
      rw [← e4] at hw
      exact r_vret C hw hf dX5_putWhole_20
theorem c_X5_putWhole (l : Launch) (D : Ds) (b : Nat) {x0 x1 : Int} {μ μ' : Mem} {r : Int} (t0 : isK x0 5) (hf : f_X5_putWhole x0 x1 μ = some (r, μ')) : Ctr l D b yX5_putWhole cX5_putWhole 2 (none) 0 [(2, x0), (0, x1)] μ none μ' := by
  refine Ctr.of (by decide +kernel) (Nat.le_of_ble_eq_true rfl) ?_
  intro p e s m below meth c C hw ls hl
  exact w_X5_putWhole_0 C hf t0 hw hl
set_option maxHeartbeats 4000000 in
set_option maxRecDepth 20000 in
theorem w_X5_throughTo_0 (C : Cx p s m args meth c D b cX5_throughTo 4 RX5 (some .int)) {r : Int} {μ' : Mem} {x0 x1 x2 x3 : Int} {μ : Mem} {H : Heap} {locs : List Loc} {ls : Array Slot} (hf : f_X5_throughTo x0 x1 x2 x3 μ = some (r, μ')) (t0 : isK x0 5) (hw : Hw D b μ s.heap H locs) (hl : lvh b ls 4 [(0, 2, x0), (1, 2, x1), (2, 0, x2), (3, 0, x3)]) : W p l e (rm 1) s m args below meth c H locs 0 0 (QM below args s D b (some (.int (jI r))) μ') (F0 m 0 ls []) := by
  unfold f_X5_throughTo at hf
  refine r_aload_n C hl (kx := 1) rfl rfl dX5_throughTo_0 ?_
  refine r_iload_n C hl (kx := 2) rfl rfl dX5_throughTo_1 ?_
  obtain ⟨g1, hf⟩ := gd_some hf
  obtain ⟨r3, μ2, e4, hf⟩ := bn_some hf
  refine r_callVv C hw (K := [(0, x2)]) ok3 g1 (c_X3_hasLane l D b g1 e4) mi_X3_hasLane in_X3_hasLane se_X3_hasLane kl_5_67 rfl rfl (lvh_sz hl) (by decide) (Kr := []) rfl (Nat.le_of_ble_eq_true rfl) dX5_throughTo_2 (fun H locs hw => ?_)
  refine r_if_eq C (tgt := 18) (by decide) dX5_throughTo_5 (fun c5 => ?_) (fun c5 => ?_)
  · have hf := ite_t c5 hf
    refine r_iconst C dX5_throughTo_18 ?_
    exact r_iret C hw hf dX5_throughTo_19
  · have hf := ite_f c5 hf
    refine r_iload_n C hl (kx := 3) rfl rfl dX5_throughTo_8 ?_
    refine r_if_lt C (tgt := 18) (by decide) dX5_throughTo_9 (fun c6 => ?_) (fun c6 => ?_)
    · have hf := ite_t c6 hf
      refine r_iconst C dX5_throughTo_18 ?_
      exact r_iret C hw hf dX5_throughTo_19
    · have hf := ite_f c6 hf
      refine r_iload_n C hl (kx := 3) rfl rfl dX5_throughTo_12 ?_
      refine r_bipush C (by decide) dX5_throughTo_13 ?_
      refine r_icmp_lt C (tgt := 20) (by decide) dX5_throughTo_15 (fun c7 => ?_) (fun c7 => ?_)
      · have hf := ite_t c7 hf
        refine r_bipush C (by decide) dX5_throughTo_20 ?_
        refine r_aload_n C hl (kx := 1) rfl rfl dX5_throughTo_22 ?_
        refine gf_5_71 C hw g1 dX5_throughTo_23 ?_
        refine r_iload_n C hl (kx := 2) rfl rfl dX5_throughTo_26 ?_
        obtain ⟨g8, hf⟩ := gd_some hf
        refine r_iald C hw (n := 9) (ow_3_12 g1) (j := (nrm x2)) rfl g8 (by decide) dX5_throughTo_27 ?_
        refine r_isub C dX5_throughTo_28 ?_
        refine r_aload_n C hl (kx := 0) rfl rfl dX5_throughTo_29 ?_
        refine gf_5_15 C hw t0 dX5_throughTo_30 ?_
        refine r_iload_n C hl (kx := 3) rfl rfl dX5_throughTo_33 ?_
        obtain ⟨g9, hf⟩ := gd_some hf
        obtain ⟨g10, hf⟩ := gd_some hf
        refine r_iald C hw (n := 7) g9 (j := (nrm x3)) rfl g10 (by decide) dX5_throughTo_34 ?_
        refine r_imul C dX5_throughTo_35 ?_
        exact r_iret C hw hf dX5_throughTo_36
      · have hf := ite_f c7 hf
        refine r_iconst C dX5_throughTo_18 ?_
        exact r_iret C hw hf dX5_throughTo_19
theorem c_X5_throughTo (l : Launch) (D : Ds) (b : Nat) {x0 x1 x2 x3 : Int} {μ μ' : Mem} {r : Int} (t0 : isK x0 5) (hf : f_X5_throughTo x0 x1 x2 x3 μ = some (r, μ')) : Ctr l D b yX5_throughTo cX5_throughTo 4 (some .int) 1 [(2, x0), (2, x1), (0, x2), (0, x3)] μ (some (.int (jI r))) μ' := by
  refine Ctr.of (by decide +kernel) (Nat.le_of_ble_eq_true rfl) ?_
  intro p e s m below meth c C hw ls hl
  exact w_X5_throughTo_0 C hf t0 hw hl
set_option maxHeartbeats 4000000 in
set_option maxRecDepth 20000 in
theorem w_X5_raise_0 (C : Cx p s m args meth c D b cX5_raise 3 RX5 (none)) {r : Int} {μ' : Mem} {x0 x1 x2 : Int} {μ : Mem} {H : Heap} {locs : List Loc} {ls : Array Slot} (hf : f_X5_raise x0 x1 x2 μ = some (r, μ')) (t0 : isK x0 5) (hw : Hw D b μ s.heap H locs) (hl : lvh b ls 3 [(0, 2, x0), (1, 0, x1), (2, 0, x2)]) : W p l e (rm 1) s m args below meth c H locs 0 0 (QM below args s D b none μ') (F0 m 0 ls []) := by
  unfold f_X5_raise at hf
  refine r_iload_n C hl (kx := 1) rfl rfl dX5_raise_0 ?_
  refine r_if_lt C (tgt := 26) (by decide) dX5_raise_1 (fun c1 => ?_) (fun c1 => ?_)
  · have hf := ite_t c1 hf
    exact r_vret C hw hf dX5_raise_26
  · have hf := ite_f c1 hf
    refine r_iload_n C hl (kx := 1) rfl rfl dX5_raise_4 ?_
    refine r_bipush C (by decide) dX5_raise_5 ?_
    refine r_icmp_ge C (tgt := 26) (by decide) dX5_raise_7 (fun c2 => ?_) (fun c2 => ?_)
    · have hf := ite_t c2 hf
      exact r_vret C hw hf dX5_raise_26
    · have hf := ite_f c2 hf
      refine r_aload_n C hl (kx := 0) rfl rfl dX5_raise_10 ?_
      refine gf_5_9 C hw t0 dX5_raise_11 ?_
      refine r_iload_n C hl (kx := 1) rfl rfl dX5_raise_14 ?_
      refine r_aload_n C hl (kx := 0) rfl rfl dX5_raise_15 ?_
      refine gf_5_9 C hw t0 dX5_raise_16 ?_
      refine r_iload_n C hl (kx := 1) rfl rfl dX5_raise_19 ?_
      obtain ⟨g3, hf⟩ := gd_some hf
      obtain ⟨g4, hf⟩ := gd_some hf
      refine r_iald C hw (n := 7) g3 (j := (nrm x1)) rfl g4 (by decide) dX5_raise_20 ?_
      refine r_iload_n C hl (kx := 2) rfl rfl dX5_raise_21 ?_
      obtain ⟨r6, μ5, e7, hf⟩ := bn_some hf
      refine r_callSv C hw (K := [(0, (μ (μ x0 0) (nrm x1))), (0, x2)]) (c_J9_max_7cf53 l D b e7) mi_J9_max_7cf53 st_J9_max_7cf53 kl_5_61 rfl rfl (lvh_sz hl) (by decide) (Kr := [(0, x1), (2, (μ x0 0))]) rfl (Nat.le_of_ble_eq_true rfl) dX5_raise_22 (fun H locs hw => ?_)
      obtain ⟨g10, hf⟩ := gd_some hf
      obtain ⟨μ8, e9, hf⟩ := nm_some hf
      refine r_iast C hw (n := 7) g3 (j := (nrm x1)) rfl g10 (by decide) dX5_raise_25 (fun H locs hw => ?_)
      rw [← e9] at hw
      exact r_vret C hw hf dX5_raise_26
theorem c_X5_raise (l : Launch) (D : Ds) (b : Nat) {x0 x1 x2 : Int} {μ μ' : Mem} {r : Int} (t0 : isK x0 5) (hf : f_X5_raise x0 x1 x2 μ = some (r, μ')) : Ctr l D b yX5_raise cX5_raise 3 (none) 1 [(2, x0), (0, x1), (0, x2)] μ none μ' := by
  refine Ctr.of (by decide +kernel) (Nat.le_of_ble_eq_true rfl) ?_
  intro p e s m below meth c C hw ls hl
  exact w_X5_raise_0 C hf t0 hw hl
set_option maxHeartbeats 4000000 in
set_option maxRecDepth 20000 in
theorem w_X5_weigh_166 (C : Cx p s m args meth c D b cX5_weigh 9 RX5 (none)) {r : Int} {μ' : Mem} (k33 : Int → Int → Int → Int → Int → Int → Mem → Option (Int × Mem)) (h33 : ∀ (x0 x2 x3 x4 x5 x6 : Int) (μ : Mem) (H : Heap) (locs : List Loc) (ls : Array Slot), k33 x0 x2 x3 x4 x5 x6 μ = some (r, μ') → isK x0 5 → Hw D b μ s.heap H locs → lvh b ls 9 [(0, 2, x0), (2, 0, x2), (3, 0, x3), (4, 2, x4), (5, 0, x5), (6, 0, x6)] → W p l e (rm 4) s m args below meth c H locs 0 0 (QM below args s D b none μ') (F0 m 33 ls [])) {x0 x2 x3 x4 x5 x6 : Int} {μ : Mem} {H : Heap} {locs : List Loc} {ls : Array Slot} (hf : f_X5_weigh_j166 k33 x0 x2 x3 x4 x5 x6 μ = some (r, μ')) (t0 : isK x0 5) (hw : Hw D b μ s.heap H locs) (hl : lvh b ls 9 [(0, 2, x0), (2, 0, x2), (3, 0, x3), (4, 2, x4), (5, 0, x5), (6, 0, x6)]) : W p l e (rm 4) s m args below meth c H locs 0 0 (QM below args s D b none μ') (F0 m 166 ls []) := by
  unfold f_X5_weigh_j166 at hf
  refine r_aload_n C hl (kx := 0) rfl rfl dX5_weigh_166 ?_
  refine r_dup C (rfv_cat _ _) dX5_weigh_167 ?_
  refine gf_5_18 C hw t0 dX5_weigh_168 ?_
  refine r_bipush C (by decide) dX5_weigh_171 ?_
  refine r_imul C dX5_weigh_173 ?_
  obtain ⟨μ1, e2, hf⟩ := nm_some hf
  refine pf_5_18 C hw t0 dX5_weigh_174 (fun H locs hw => ?_)
  rw [← e2] at hw
  refine r_aload_n C hl (kx := 0) rfl rfl dX5_weigh_177 ?_
  refine r_iload_n C hl (kx := 1) rfl rfl dX5_weigh_178 ?_
  obtain ⟨r4, μ3, e5, hf⟩ := bn_some hf
  refine r_callVn C hw (K := [(0, x2)]) ok5 t0 (c_X5_putWhole l D b t0 e5) mi_X5_putWhole in_X5_putWhole se_X5_putWhole kl_5_38 rfl rfl (lvh_sz hl) (by decide) (Kr := []) rfl (Nat.le_of_ble_eq_true rfl) dX5_weigh_179 (fun H locs hw => ?_)
  refine r_iinc C hl (kx := 5) rfl (by decide) (L' := [(6, 0, (x6 + 1)), (0, 2, x0), (2, 0, x2), (3, 0, x3), (4, 2, x4), (5, 0, x5)]) rfl dX5_weigh_182 (fun ls hl => ?_)
  refine r_goto C (tgt := 33) (by decide) dX5_weigh_185 ?_
  exact h33 _ _ _ _ _ _ _ _ _ _ hf t0 hw (lvh_sub hl [1, 2, 3, 4, 5, 0] rfl)
set_option maxHeartbeats 4000000 in
set_option maxRecDepth 20000 in
theorem w_X5_weigh_160 (C : Cx p s m args meth c D b cX5_weigh 9 RX5 (none)) {r : Int} {μ' : Mem} (k33 : Int → Int → Int → Int → Int → Int → Mem → Option (Int × Mem)) (h33 : ∀ (x0 x2 x3 x4 x5 x6 : Int) (μ : Mem) (H : Heap) (locs : List Loc) (ls : Array Slot), k33 x0 x2 x3 x4 x5 x6 μ = some (r, μ') → isK x0 5 → Hw D b μ s.heap H locs → lvh b ls 9 [(0, 2, x0), (2, 0, x2), (3, 0, x3), (4, 2, x4), (5, 0, x5), (6, 0, x6)] → W p l e (rm 4) s m args below meth c H locs 0 0 (QM below args s D b none μ') (F0 m 33 ls [])) (k77 : Int → Int → Int → Int → Int → Int → Int → Mem → Option (Int × Mem)) (h77 : ∀ (x0 x2 x3 x4 x5 x6 x8 : Int) (μ : Mem) (H : Heap) (locs : List Loc) (ls : Array Slot), k77 x0 x2 x3 x4 x5 x6 x8 μ = some (r, μ') → isK x0 5 → Hw D b μ s.heap H locs → lvh b ls 9 [(0, 2, x0), (2, 0, x2), (3, 0, x3), (4, 2, x4), (5, 0, x5), (6, 0, x6), (8, 0, x8)] → W p l e (rm 4) s m args below meth c H locs 0 0 (QM below args s D b none μ') (F0 m 77 ls [])) {x0 x2 x3 x4 x5 x6 x8 : Int} {μ : Mem} {H : Heap} {locs : List Loc} {ls : Array Slot} (hf : f_X5_weigh_j160 k33 k77 x0 x2 x3 x4 x5 x6 x8 μ = some (r, μ')) (t0 : isK x0 5) (hw : Hw D b μ s.heap H locs) (hl : lvh b ls 9 [(0, 2, x0), (2, 0, x2), (3, 0, x3), (4, 2, x4), (5, 0, x5), (6, 0, x6), (8, 0, x8)]) : W p l e (rm 4) s m args below meth c H locs 0 0 (QM below args s D b none μ') (F0 m 160 ls []) := by
  unfold f_X5_weigh_j160 at hf
  refine r_iinc C hl (kx := 6) rfl (by decide) (L' := [(8, 0, (x8 + 1)), (0, 2, x0), (2, 0, x2), (3, 0, x3), (4, 2, x4), (5, 0, x5), (6, 0, x6)]) rfl dX5_weigh_160 (fun ls hl => ?_)
  refine r_goto C (tgt := 77) (by decide) dX5_weigh_163 ?_
  exact h77 _ _ _ _ _ _ _ _ _ _ _ hf t0 hw (lvh_sub hl [1, 2, 3, 4, 5, 6, 0] rfl)
set_option maxHeartbeats 4000000 in
set_option maxRecDepth 20000 in
theorem w_X5_weigh_77 (C : Cx p s m args meth c D b cX5_weigh 9 RX5 (none)) {r : Int} {μ' : Mem} (k33 : Int → Int → Int → Int → Int → Int → Mem → Option (Int × Mem)) (h33 : ∀ (x0 x2 x3 x4 x5 x6 : Int) (μ : Mem) (H : Heap) (locs : List Loc) (ls : Array Slot), k33 x0 x2 x3 x4 x5 x6 μ = some (r, μ') → isK x0 5 → Hw D b μ s.heap H locs → lvh b ls 9 [(0, 2, x0), (2, 0, x2), (3, 0, x3), (4, 2, x4), (5, 0, x5), (6, 0, x6)] → W p l e (rm 4) s m args below meth c H locs 0 0 (QM below args s D b none μ') (F0 m 33 ls [])) : ∀ (n : Nat) (x0 x2 x3 x4 x5 x6 x8 : Int) (μ : Mem) (H : Heap) (locs : List Loc) (ls : Array Slot), f_X5_weigh_w77 k33 n x0 x2 x3 x4 x5 x6 x8 μ = some (r, μ') → isK x0 5 → Hw D b μ s.heap H locs → lvh b ls 9 [(0, 2, x0), (2, 0, x2), (3, 0, x3), (4, 2, x4), (5, 0, x5), (6, 0, x6), (8, 0, x8)] → W p l e (rm 4) s m args below meth c H locs 0 0 (QM below args s D b none μ') (F0 m 77 ls []) := by
  intro n
  induction n with
  | zero => intro x0 x2 x3 x4 x5 x6 x8 μ H locs ls hf; cases hf
  | succ n ih =>
    intro x0 x2 x3 x4 x5 x6 x8 μ H locs ls hf t0 hw hl
    rw [f_X5_weigh_w77.eq_2] at hf
    refine r_iload C hl (kx := 6) rfl dX5_weigh_77 ?_
    refine r_aload C hl (kx := 3) rfl dX5_weigh_79 ?_
    obtain ⟨g1, hf⟩ := gd_some hf
    refine gf_5_42 C hw g1 dX5_weigh_81 ?_
    refine r_icmp_ge C (tgt := 166) (by decide) dX5_weigh_84 (fun c2 => ?_) (fun c2 => ?_)
    · have hf := ite_t c2 hf
      exact w_X5_weigh_166 C _ h33 hf t0 hw (lvh_sub hl [0, 1, 2, 3, 4, 5] rfl)
    · have hf := ite_f c2 hf
      refine r_iload C hl (kx := 6) rfl dX5_weigh_87 ?_
      refine r_bipush C (by decide) dX5_weigh_89 ?_
      refine r_icmp_ge C (tgt := 166) (by decide) dX5_weigh_91 (fun c3 => ?_) (fun c3 => ?_)
      · have hf := ite_t c3 hf
        exact w_X5_weigh_166 C _ h33 hf t0 hw (lvh_sub hl [0, 1, 2, 3, 4, 5] rfl)
      · have hf := ite_f c3 hf
        refine r_iload C hl (kx := 4) rfl dX5_weigh_94 ?_
        refine r_iload C hl (kx := 6) rfl dX5_weigh_96 ?_
        refine r_ishr C dX5_weigh_98 ?_
        refine r_iconst C dX5_weigh_99 ?_
        refine r_iand C dX5_weigh_100 ?_
        refine r_if_eq C (tgt := 160) (by decide) dX5_weigh_101 (fun c4 => ?_) (fun c4 => ?_)
        · have hf := ite_t c4 hf
          exact w_X5_weigh_160 C _ h33 _ ih hf t0 hw (lvh_sub hl [0, 1, 2, 3, 4, 5, 6] rfl)
        · have hf := ite_f c4 hf
          refine r_aload_n C hl (kx := 0) rfl rfl dX5_weigh_104 ?_
          refine r_aload C hl (kx := 3) rfl dX5_weigh_105 ?_
          refine gf_5_47 C hw g1 dX5_weigh_107 ?_
          refine r_iload C hl (kx := 6) rfl dX5_weigh_110 ?_
          obtain ⟨g5, hf⟩ := gd_some hf
          refine r_iald C hw (n := 9) (ow_3_8 g1) (j := (nrm x8)) rfl g5 (by decide) dX5_weigh_112 ?_
          refine r_aload_n C hl (kx := 0) rfl rfl dX5_weigh_113 ?_
          refine r_aload C hl (kx := 3) rfl dX5_weigh_114 ?_
          refine r_iload C hl (kx := 6) rfl dX5_weigh_116 ?_
          refine r_aload C hl (kx := 3) rfl dX5_weigh_118 ?_
          refine gf_5_50 C hw g1 dX5_weigh_120 ?_
          refine r_iload C hl (kx := 6) rfl dX5_weigh_123 ?_
          obtain ⟨g6, hf⟩ := gd_some hf
          refine r_iald C hw (n := 9) (ow_3_9 g1) (j := (nrm x8)) rfl g6 (by decide) dX5_weigh_125 ?_
          obtain ⟨r8, μ7, e9, hf⟩ := bn_some hf
          refine r_callVv C hw (K := [(2, x4), (0, x8), (0, (μ (x4 + 2) (nrm x8)))]) ok5 t0 (c_X5_throughTo l D b t0 e9) mi_X5_throughTo in_X5_throughTo se_X5_throughTo kl_5_53 rfl rfl (lvh_sz hl) (by decide) (Kr := [(0, (μ (x4 + 1) (nrm x8))), (2, x0)]) rfl (Nat.le_of_ble_eq_true rfl) dX5_weigh_126 (fun H locs hw => ?_)
          obtain ⟨r11, μ10, e12, hf⟩ := bn_some hf
          refine r_callVn C hw (K := [(0, (μ (x4 + 1) (nrm x8))), (0, r8)]) ok5 t0 (c_X5_raise l D b t0 e12) mi_X5_raise in_X5_raise se_X5_raise kl_5_57 rfl rfl (lvh_sz hl) (by decide) (Kr := []) rfl (Nat.le_of_ble_eq_true rfl) dX5_weigh_129 (fun H locs hw => ?_)
          refine r_aload_n C hl (kx := 0) rfl rfl dX5_weigh_132 ?_
          refine r_aload C hl (kx := 3) rfl dX5_weigh_133 ?_
          refine gf_5_50 C hw g1 dX5_weigh_135 ?_
          refine r_iload C hl (kx := 6) rfl dX5_weigh_138 ?_
          obtain ⟨g13, hf⟩ := gd_some hf
          refine r_iald C hw (n := 9) (ow_3_9 g1) (j := (nrm x8)) rfl g13 (by decide) dX5_weigh_140 ?_
          refine r_aload_n C hl (kx := 0) rfl rfl dX5_weigh_141 ?_
          refine r_aload C hl (kx := 3) rfl dX5_weigh_142 ?_
          refine r_iload C hl (kx := 6) rfl dX5_weigh_144 ?_
          refine r_aload C hl (kx := 3) rfl dX5_weigh_146 ?_
          refine gf_5_47 C hw g1 dX5_weigh_148 ?_
          refine r_iload C hl (kx := 6) rfl dX5_weigh_151 ?_
          obtain ⟨g14, hf⟩ := gd_some hf
          refine r_iald C hw (n := 9) (ow_3_8 g1) (j := (nrm x8)) rfl g14 (by decide) dX5_weigh_153 ?_
          obtain ⟨r16, μ15, e17, hf⟩ := bn_some hf
          refine r_callVv C hw (K := [(2, x4), (0, x8), (0, (μ10 (x4 + 1) (nrm x8)))]) ok5 t0 (c_X5_throughTo l D b t0 e17) mi_X5_throughTo in_X5_throughTo se_X5_throughTo kl_5_53 rfl rfl (lvh_sz hl) (by decide) (Kr := [(0, (μ10 (x4 + 2) (nrm x8))), (2, x0)]) rfl (Nat.le_of_ble_eq_true rfl) dX5_weigh_154 (fun H locs hw => ?_)
          obtain ⟨r19, μ18, e20, hf⟩ := bn_some hf
          refine r_callVn C hw (K := [(0, (μ10 (x4 + 2) (nrm x8))), (0, r16)]) ok5 t0 (c_X5_raise l D b t0 e20) mi_X5_raise in_X5_raise se_X5_raise kl_5_57 rfl rfl (lvh_sz hl) (by decide) (Kr := []) rfl (Nat.le_of_ble_eq_true rfl) dX5_weigh_157 (fun H locs hw => ?_)
          exact w_X5_weigh_160 C _ h33 _ ih hf t0 hw (lvh_sub hl [0, 1, 2, 3, 4, 5, 6] rfl)
set_option maxHeartbeats 4000000 in
set_option maxRecDepth 20000 in
theorem w_X5_weigh_33 (C : Cx p s m args meth c D b cX5_weigh 9 RX5 (none)) {r : Int} {μ' : Mem} : ∀ (n : Nat) (x0 x2 x3 x4 x5 x6 : Int) (μ : Mem) (H : Heap) (locs : List Loc) (ls : Array Slot), f_X5_weigh_w33 n x0 x2 x3 x4 x5 x6 μ = some (r, μ') → isK x0 5 → Hw D b μ s.heap H locs → lvh b ls 9 [(0, 2, x0), (2, 0, x2), (3, 0, x3), (4, 2, x4), (5, 0, x5), (6, 0, x6)] → W p l e (rm 4) s m args below meth c H locs 0 0 (QM below args s D b none μ') (F0 m 33 ls []) := by
  intro n
  induction n with
  | zero => intro x0 x2 x3 x4 x5 x6 μ H locs ls hf; cases hf
  | succ n ih =>
    intro x0 x2 x3 x4 x5 x6 μ H locs ls hf t0 hw hl
    rw [f_X5_weigh_w33.eq_2] at hf
    refine r_iload C hl (kx := 5) rfl dX5_weigh_33 ?_
    refine r_iload_n C hl (kx := 2) rfl rfl dX5_weigh_35 ?_
    refine r_icmp_ge C (tgt := 188) (by decide) dX5_weigh_36 (fun c1 => ?_) (fun c1 => ?_)
    · have hf := ite_t c1 hf
      exact r_vret C hw hf dX5_weigh_188
    · have hf := ite_f c1 hf
      refine r_iload C hl (kx := 5) rfl dX5_weigh_39 ?_
      refine r_bipush C (by decide) dX5_weigh_41 ?_
      refine r_icmp_ge C (tgt := 188) (by decide) dX5_weigh_43 (fun c2 => ?_) (fun c2 => ?_)
      · have hf := ite_t c2 hf
        exact r_vret C hw hf dX5_weigh_188
      · have hf := ite_f c2 hf
        refine r_aload_n C hl (kx := 0) rfl rfl dX5_weigh_46 ?_
        refine gf_5_15 C hw t0 dX5_weigh_47 ?_
        refine r_astore C hl (by decide) (L' := [(7, 2, (μ x0 1)), (0, 2, x0), (2, 0, x2), (3, 0, x3), (4, 2, x4), (5, 0, x5), (6, 0, x6)]) rfl dX5_weigh_50 (fun ls hl => ?_)
        refine r_aload_n C hl (kx := 1) rfl rfl dX5_weigh_52 ?_
        refine r_aload_n C hl (kx := 1) rfl rfl dX5_weigh_53 ?_
        refine gf_5_9 C hw t0 dX5_weigh_54 ?_
        obtain ⟨μ3, e4, hf⟩ := nm_some hf
        refine pf_5_15 C hw t0 dX5_weigh_57 (fun H locs hw => ?_)
        rw [← e4] at hw
        refine r_aload_n C hl (kx := 1) rfl rfl dX5_weigh_60 ?_
        refine r_aload C hl (kx := 0) rfl dX5_weigh_61 ?_
        obtain ⟨μ5, e6, hf⟩ := nm_some hf
        refine pf_5_9 C hw t0 dX5_weigh_63 (fun H locs hw => ?_)
        rw [← e6] at hw
        refine r_aload_n C hl (kx := 1) rfl rfl dX5_weigh_66 ?_
        refine gf_5_9 C hw t0 dX5_weigh_67 ?_
        refine r_iconst C dX5_weigh_70 ?_
        obtain ⟨r8, μ7, e9, hf⟩ := bn_some hf
        refine r_callSn C hw (K := [(2, (μ5 x0 0)), (0, 0)]) (c_J7_fill_53178 l D b e9) mi_J7_fill_53178 st_J7_fill_53178 kl_5_32 rfl rfl (lvh_sz hl) (by decide) (Kr := []) rfl (Nat.le_of_ble_eq_true rfl) dX5_weigh_71 (fun H locs hw => ?_)
        refine r_iconst C dX5_weigh_74 ?_
        refine r_istore C hl (by decide) (L' := [(8, 0, 0), (7, 2, (μ x0 1)), (0, 2, x0), (2, 0, x2), (3, 0, x3), (4, 2, x4), (5, 0, x5), (6, 0, x6)]) rfl dX5_weigh_75 (fun ls hl => ?_)
        exact w_X5_weigh_77 C _ ih FU _ _ _ _ _ _ _ _ _ _ _ hf t0 hw (lvh_sub hl [2, 3, 4, 5, 6, 7, 0] rfl)
set_option maxHeartbeats 4000000 in
set_option maxRecDepth 20000 in
theorem w_X5_weigh_0 (C : Cx p s m args meth c D b cX5_weigh 9 RX5 (none)) {r : Int} {μ' : Mem} {x0 x1 x2 x3 : Int} {μ : Mem} {H : Heap} {locs : List Loc} {ls : Array Slot} (hf : f_X5_weigh x0 x1 x2 x3 μ = some (r, μ')) (t0 : isK x0 5) (hw : Hw D b μ s.heap H locs) (hl : lvh b ls 9 [(0, 2, x0), (1, 2, x1), (2, 0, x2), (3, 0, x3)]) : W p l e (rm 4) s m args below meth c H locs 0 0 (QM below args s D b none μ') (F0 m 0 ls []) := by
  unfold f_X5_weigh at hf
  refine r_aload_n C hl (kx := 1) rfl rfl dX5_weigh_0 ?_
  obtain ⟨g1, hf⟩ := gd_some hf
  refine gf_5_22 C hw g1 dX5_weigh_1 ?_
  refine r_astore C hl (by decide) (L' := [(4, 2, (μ x1 0)), (0, 2, x0), (1, 2, x1), (2, 0, x2), (3, 0, x3)]) rfl dX5_weigh_4 (fun ls hl => ?_)
  refine r_aload_n C hl (kx := 2) rfl rfl dX5_weigh_6 ?_
  obtain ⟨r3, μ2, e4, hf⟩ := bn_some hf
  refine r_callVv C hw (K := []) ok0 g1 (c_X0_openLanes l D b g1 e4) mi_X0_openLanes in_X0_openLanes se_X0_openLanes kl_5_28 rfl rfl (lvh_sz hl) (by decide) (Kr := []) rfl (Nat.le_of_ble_eq_true rfl) dX5_weigh_7 (fun H locs hw => ?_)
  refine r_istore C hl (by decide) (L' := [(5, 0, r3), (4, 2, (μ x1 0)), (0, 2, x0), (1, 2, x1), (2, 0, x2), (3, 0, x3)]) rfl dX5_weigh_10 (fun ls hl => ?_)
  refine r_aload_n C hl (kx := 2) rfl rfl dX5_weigh_12 ?_
  refine gf_5_9 C hw t0 dX5_weigh_13 ?_
  refine r_iconst C dX5_weigh_16 ?_
  obtain ⟨r6, μ5, e7, hf⟩ := bn_some hf
  refine r_callSn C hw (K := [(2, (μ2 x0 0)), (0, 0)]) (c_J7_fill_53178 l D b e7) mi_J7_fill_53178 st_J7_fill_53178 kl_5_32 rfl rfl (lvh_sz hl) (by decide) (Kr := []) rfl (Nat.le_of_ble_eq_true rfl) dX5_weigh_17 (fun H locs hw => ?_)
  refine r_aload_n C hl (kx := 2) rfl rfl dX5_weigh_20 ?_
  refine r_iconst C dX5_weigh_21 ?_
  obtain ⟨μ8, e9, hf⟩ := nm_some hf
  refine pf_5_18 C hw t0 dX5_weigh_22 (fun H locs hw => ?_)
  rw [← e9] at hw
  refine r_aload_n C hl (kx := 2) rfl rfl dX5_weigh_25 ?_
  refine r_iload_n C hl (kx := 4) rfl rfl dX5_weigh_26 ?_
  obtain ⟨r11, μ10, e12, hf⟩ := bn_some hf
  refine r_callVn C hw (K := [(0, x2)]) ok5 t0 (c_X5_putWhole l D b t0 e12) mi_X5_putWhole in_X5_putWhole se_X5_putWhole kl_5_38 rfl rfl (lvh_sz hl) (by decide) (Kr := []) rfl (Nat.le_of_ble_eq_true rfl) dX5_weigh_27 (fun H locs hw => ?_)
  refine r_iconst C dX5_weigh_30 ?_
  refine r_istore C hl (by decide) (L' := [(6, 0, 0), (5, 0, r3), (4, 2, (μ x1 0)), (0, 2, x0), (1, 2, x1), (2, 0, x2), (3, 0, x3)]) rfl dX5_weigh_31 (fun ls hl => ?_)
  exact w_X5_weigh_33 C FU _ _ _ _ _ _ _ _ _ _ hf t0 hw (lvh_sub hl [3, 5, 6, 2, 1, 0] rfl)
theorem c_X5_weigh (l : Launch) (D : Ds) (b : Nat) {x0 x1 x2 x3 : Int} {μ μ' : Mem} {r : Int} (t0 : isK x0 5) (hf : f_X5_weigh x0 x1 x2 x3 μ = some (r, μ')) : Ctr l D b yX5_weigh cX5_weigh 9 (none) 4 [(2, x0), (2, x1), (0, x2), (0, x3)] μ none μ' := by
  refine Ctr.of (by decide +kernel) (Nat.le_of_ble_eq_true rfl) ?_
  intro p e s m below meth c C hw ls hl
  exact w_X5_weigh_0 C hf t0 hw hl
set_option maxHeartbeats 4000000 in
set_option maxRecDepth 20000 in
theorem w_X5_firstLikeliest_88 (C : Cx p s m args meth c D b cX5_firstLikeliest 7 RX5 (some .int)) {r : Int} {μ' : Mem} (k27 : Int → Int → Int → Int → Mem → Option (Int × Mem)) (h27 : ∀ (x0 x1 x4 x5 : Int) (μ : Mem) (H : Heap) (locs : List Loc) (ls : Array Slot), k27 x0 x1 x4 x5 μ = some (r, μ') → isK x0 5 → Hw D b μ s.heap H locs → lvh b ls 7 [(0, 2, x0), (1, 2, x1), (4, 0, x4), (5, 0, x5)] → W p l e (rm 5) s m args below meth c H locs 0 0 (QM below args s D b (some (.int (jI r))) μ') (F0 m 27 ls [])) {x0 x1 x4 x5 : Int} {μ : Mem} {H : Heap} {locs : List Loc} {ls : Array Slot} (hf : f_X5_firstLikeliest_j88 k27 x0 x1 x4 x5 μ = some (r, μ')) (t0 : isK x0 5) (hw : Hw D b μ s.heap H locs) (hl : lvh b ls 7 [(0, 2, x0), (1, 2, x1), (4, 0, x4), (5, 0, x5)]) : W p l e (rm 5) s m args below meth c H locs 0 0 (QM below args s D b (some (.int (jI r))) μ') (F0 m 88 ls []) := by
  unfold f_X5_firstLikeliest_j88 at hf
  refine r_iinc C hl (kx := 3) rfl (by decide) (L' := [(5, 0, (x5 + 1)), (0, 2, x0), (1, 2, x1), (4, 0, x4)]) rfl dX5_firstLikeliest_88 (fun ls hl => ?_)
  refine r_goto C (tgt := 27) (by decide) dX5_firstLikeliest_91 ?_
  exact h27 _ _ _ _ _ _ _ _ hf t0 hw (lvh_sub hl [1, 2, 3, 0] rfl)
set_option maxHeartbeats 4000000 in
set_option maxRecDepth 20000 in
theorem w_X5_firstLikeliest_27 (C : Cx p s m args meth c D b cX5_firstLikeliest 7 RX5 (some .int)) {r : Int} {μ' : Mem} : ∀ (n : Nat) (x0 x1 x4 x5 : Int) (μ : Mem) (H : Heap) (locs : List Loc) (ls : Array Slot), f_X5_firstLikeliest_w27 n x0 x1 x4 x5 μ = some (r, μ') → isK x0 5 → Hw D b μ s.heap H locs → lvh b ls 7 [(0, 2, x0), (1, 2, x1), (4, 0, x4), (5, 0, x5)] → W p l e (rm 5) s m args below meth c H locs 0 0 (QM below args s D b (some (.int (jI r))) μ') (F0 m 27 ls []) := by
  intro n
  induction n with
  | zero => intro x0 x1 x4 x5 μ H locs ls hf; cases hf
  | succ n ih =>
    intro x0 x1 x4 x5 μ H locs ls hf t0 hw hl
    rw [f_X5_firstLikeliest_w27.eq_2] at hf
    refine r_iload C hl (kx := 2) rfl dX5_firstLikeliest_27 ?_
    refine r_if_le C (tgt := 94) (by decide) dX5_firstLikeliest_29 (fun c1 => ?_) (fun c1 => ?_)
    · have hf := ite_t c1 hf
      refine r_iconst C dX5_firstLikeliest_94 ?_
      exact r_iret C hw hf dX5_firstLikeliest_95
    · have hf := ite_f c1 hf
      refine r_iload C hl (kx := 3) rfl dX5_firstLikeliest_32 ?_
      refine r_aload_n C hl (kx := 1) rfl rfl dX5_firstLikeliest_34 ?_
      obtain ⟨g2, hf⟩ := gd_some hf
      refine gf_5_22 C hw g2 dX5_firstLikeliest_35 ?_
      obtain ⟨g3, hf⟩ := gd_some hf
      refine gf_5_42 C hw g3 dX5_firstLikeliest_38 ?_
      refine r_icmp_ge C (tgt := 94) (by decide) dX5_firstLikeliest_41 (fun c4 => ?_) (fun c4 => ?_)
      · have hf := ite_t c4 hf
        refine r_iconst C dX5_firstLikeliest_94 ?_
        exact r_iret C hw hf dX5_firstLikeliest_95
      · have hf := ite_f c4 hf
        refine r_aload_n C hl (kx := 1) rfl rfl dX5_firstLikeliest_44 ?_
        refine gf_5_22 C hw g2 dX5_firstLikeliest_45 ?_
        refine r_iload C hl (kx := 3) rfl dX5_firstLikeliest_48 ?_
        refine r_aload_n C hl (kx := 1) rfl rfl dX5_firstLikeliest_50 ?_
        refine gf_5_78 C hw g2 dX5_firstLikeliest_51 ?_
        obtain ⟨r6, μ5, e7, hf⟩ := bn_some hf
        refine r_callVv C hw (K := [(0, x5), (0, (μ x1 1))]) ok3 g3 (c_X3_otherEnd l D b g3 e7) mi_X3_otherEnd in_X3_otherEnd se_X3_otherEnd kl_5_85 rfl rfl (lvh_sz hl) (by decide) (Kr := []) rfl (Nat.le_of_ble_eq_true rfl) dX5_firstLikeliest_54 (fun H locs hw => ?_)
        refine r_istore C hl (by decide) (L' := [(6, 0, r6), (0, 2, x0), (1, 2, x1), (4, 0, x4), (5, 0, x5)]) rfl dX5_firstLikeliest_57 (fun ls hl => ?_)
        refine r_aload_n C hl (kx := 2) rfl rfl dX5_firstLikeliest_59 ?_
        refine r_iload C hl (kx := 4) rfl dX5_firstLikeliest_60 ?_
        obtain ⟨r9, μ8, e10, hf⟩ := bn_some hf
        refine r_callVv C hw (K := [(0, x5)]) ok0 g2 (c_X0_isOpen l D b g2 e10) mi_X0_isOpen in_X0_isOpen se_X0_isOpen kl_5_88 rfl rfl (lvh_sz hl) (by decide) (Kr := []) rfl (Nat.le_of_ble_eq_true rfl) dX5_firstLikeliest_62 (fun H locs hw => ?_)
        refine r_if_eq C (tgt := 88) (by decide) dX5_firstLikeliest_65 (fun c11 => ?_) (fun c11 => ?_)
        · have hf := ite_t c11 hf
          exact w_X5_firstLikeliest_88 C _ ih hf t0 hw (lvh_sub hl [1, 2, 3, 4] rfl)
        · have hf := ite_f c11 hf
          refine r_aload_n C hl (kx := 1) rfl rfl dX5_firstLikeliest_68 ?_
          refine r_aload_n C hl (kx := 2) rfl rfl dX5_firstLikeliest_69 ?_
          refine gf_5_22 C hw g2 dX5_firstLikeliest_70 ?_
          refine r_iload C hl (kx := 4) rfl dX5_firstLikeliest_73 ?_
          refine r_iload C hl (kx := 0) rfl dX5_firstLikeliest_75 ?_
          obtain ⟨r13, μ12, e14, hf⟩ := bn_some hf
          refine r_callVv C hw (K := [(2, (μ8 x1 0)), (0, x5), (0, r6)]) ok5 t0 (c_X5_throughTo l D b t0 e14) mi_X5_throughTo in_X5_throughTo se_X5_throughTo kl_5_53 rfl rfl (lvh_sz hl) (by decide) (Kr := []) rfl (Nat.le_of_ble_eq_true rfl) dX5_firstLikeliest_77 (fun H locs hw => ?_)
          refine r_iload C hl (kx := 3) rfl dX5_firstLikeliest_80 ?_
          refine r_icmp_ne C (tgt := 88) (by decide) dX5_firstLikeliest_82 (fun c15 => ?_) (fun c15 => ?_)
          · have hf := ite_f c15 hf
            exact w_X5_firstLikeliest_88 C _ ih hf t0 hw (lvh_sub hl [1, 2, 3, 4] rfl)
          · have hf := ite_t c15 hf
            refine r_iload C hl (kx := 4) rfl dX5_firstLikeliest_85 ?_
            exact r_iret C hw hf dX5_firstLikeliest_87
set_option maxHeartbeats 4000000 in
set_option maxRecDepth 20000 in
theorem w_X5_firstLikeliest_0 (C : Cx p s m args meth c D b cX5_firstLikeliest 7 RX5 (some .int)) {r : Int} {μ' : Mem} {x0 x1 x2 x3 : Int} {μ : Mem} {H : Heap} {locs : List Loc} {ls : Array Slot} (hf : f_X5_firstLikeliest x0 x1 x2 x3 μ = some (r, μ')) (t0 : isK x0 5) (hw : Hw D b μ s.heap H locs) (hl : lvh b ls 7 [(0, 2, x0), (1, 2, x1), (2, 0, x2), (3, 0, x3)]) : W p l e (rm 5) s m args below meth c H locs 0 0 (QM below args s D b (some (.int (jI r))) μ') (F0 m 0 ls []) := by
  unfold f_X5_firstLikeliest at hf
  refine r_iload_n C hl (kx := 3) rfl rfl dX5_firstLikeliest_0 ?_
  refine r_iconst C dX5_firstLikeliest_1 ?_
  refine r_icmp_ge C (tgt := 7) (by decide) dX5_firstLikeliest_2 (fun c1 => ?_) (fun c1 => ?_)
  · have hf := ite_t c1 hf
    refine r_aload_n C hl (kx := 0) rfl rfl dX5_firstLikeliest_7 ?_
    refine r_aload_n C hl (kx := 1) rfl rfl dX5_firstLikeliest_8 ?_
    refine r_iload_n C hl (kx := 2) rfl rfl dX5_firstLikeliest_9 ?_
    refine r_iload_n C hl (kx := 3) rfl rfl dX5_firstLikeliest_10 ?_
    obtain ⟨r3, μ2, e4, hf⟩ := bn_some hf
    refine r_callVn C hw (K := [(2, x1), (0, x2), (0, x3)]) ok5 t0 (c_X5_weigh l D b t0 e4) mi_X5_weigh in_X5_weigh se_X5_weigh kl_5_74 rfl rfl (lvh_sz hl) (by decide) (Kr := []) rfl (Nat.le_of_ble_eq_true rfl) dX5_firstLikeliest_11 (fun H locs hw => ?_)
    refine r_aload_n C hl (kx := 0) rfl rfl dX5_firstLikeliest_14 ?_
    refine r_aload_n C hl (kx := 1) rfl rfl dX5_firstLikeliest_15 ?_
    obtain ⟨g5, hf⟩ := gd_some hf
    refine gf_5_78 C hw g5 dX5_firstLikeliest_16 ?_
    obtain ⟨r7, μ6, e8, hf⟩ := bn_some hf
    refine r_callVv C hw (K := [(0, (μ2 x1 1))]) ok5 t0 (c_X5_aboveAt l D b t0 e8) mi_X5_aboveAt in_X5_aboveAt se_X5_aboveAt kl_5_81 rfl rfl (lvh_sz hl) (by decide) (Kr := []) rfl (Nat.le_of_ble_eq_true rfl) dX5_firstLikeliest_19 (fun H locs hw => ?_)
    refine r_istore C hl (by decide) (L' := [(4, 0, r7), (0, 2, x0), (1, 2, x1), (2, 0, x2), (3, 0, x3)]) rfl dX5_firstLikeliest_22 (fun ls hl => ?_)
    refine r_iconst C dX5_firstLikeliest_24 ?_
    refine r_istore C hl (by decide) (L' := [(5, 0, 0), (4, 0, r7), (0, 2, x0), (1, 2, x1), (2, 0, x2), (3, 0, x3)]) rfl dX5_firstLikeliest_25 (fun ls hl => ?_)
    exact w_X5_firstLikeliest_27 C FU _ _ _ _ _ _ _ _ hf t0 hw (lvh_sub hl [2, 3, 1, 0] rfl)
  · have hf := ite_f c1 hf
    refine r_iconst C dX5_firstLikeliest_5 ?_
    exact r_iret C hw hf dX5_firstLikeliest_6
theorem c_X5_firstLikeliest (l : Launch) (D : Ds) (b : Nat) {x0 x1 x2 x3 : Int} {μ μ' : Mem} {r : Int} (t0 : isK x0 5) (hf : f_X5_firstLikeliest x0 x1 x2 x3 μ = some (r, μ')) : Ctr l D b yX5_firstLikeliest cX5_firstLikeliest 7 (some .int) 5 [(2, x0), (2, x1), (0, x2), (0, x3)] μ (some (.int (jI r))) μ' := by
  refine Ctr.of (by decide +kernel) (Nat.le_of_ble_eq_true rfl) ?_
  intro p e s m below meth c C hw ls hl
  exact w_X5_firstLikeliest_0 C hf t0 hw hl
set_option maxHeartbeats 4000000 in
set_option maxRecDepth 20000 in
theorem w_X5_commonOf_7 (C : Cx p s m args meth c D b cX5_commonOf 6 RX5 (some .int)) {r : Int} {μ' : Mem} : ∀ (n : Nat) (x2 x3 x4 : Int) (μ : Mem) (H : Heap) (locs : List Loc) (ls : Array Slot), f_X5_commonOf_w7 n x2 x3 x4 μ = some (r, μ') → Hw D b μ s.heap H locs → lvh b ls 6 [(2, 0, x2), (3, 0, x3), (4, 0, x4)] → W p l e (rm 0) s m args below meth c H locs 0 0 (QM below args s D b (some (.int (jI r))) μ') (F0 m 7 ls []) := by
  intro n
  induction n with
  | zero => intro x2 x3 x4 μ H locs ls hf; cases hf
  | succ n ih =>
    intro x2 x3 x4 μ H locs ls hf hw hl
    rw [f_X5_commonOf_w7.eq_2] at hf
    refine r_iload C hl (kx := 2) rfl dX5_commonOf_7 ?_
    refine r_bipush C (by decide) dX5_commonOf_9 ?_
    refine r_icmp_ge C (tgt := 34) (by decide) dX5_commonOf_11 (fun c1 => ?_) (fun c1 => ?_)
    · have hf := ite_t c1 hf
      refine r_iload_n C hl (kx := 0) rfl rfl dX5_commonOf_34 ?_
      exact r_iret C hw hf dX5_commonOf_35
    · have hf := ite_f c1 hf
      refine r_iload_n C hl (kx := 1) rfl rfl dX5_commonOf_14 ?_
      refine r_if_eq C (tgt := 34) (by decide) dX5_commonOf_15 (fun c2 => ?_) (fun c2 => ?_)
      · have hf := ite_t c2 hf
        refine r_iload_n C hl (kx := 0) rfl rfl dX5_commonOf_34 ?_
        exact r_iret C hw hf dX5_commonOf_35
      · have hf := ite_f c2 hf
        refine r_iload_n C hl (kx := 0) rfl rfl dX5_commonOf_18 ?_
        refine r_iload_n C hl (kx := 1) rfl rfl dX5_commonOf_19 ?_
        obtain ⟨g3, hf⟩ := gd_some hf
        refine r_irem C g3 dX5_commonOf_20 ?_
        obtain ⟨v4, e5, hf⟩ := nm_some hf
        refine top_i e5 ?_
        refine r_istore C hl (by decide) (L' := [(5, 0, v4), (2, 0, x2), (3, 0, x3), (4, 0, x4)]) rfl dX5_commonOf_21 (fun ls hl => ?_)
        refine r_iload_n C hl (kx := 2) rfl rfl dX5_commonOf_23 ?_
        refine r_istore_n C hl (by decide) (L' := [(2, 0, x3), (5, 0, v4), (3, 0, x3), (4, 0, x4)]) rfl rfl dX5_commonOf_24 (fun ls hl => ?_)
        refine r_iload C hl (kx := 1) rfl dX5_commonOf_25 ?_
        refine r_istore_n C hl (by decide) (L' := [(3, 0, v4), (2, 0, x3), (5, 0, v4), (4, 0, x4)]) rfl rfl dX5_commonOf_27 (fun ls hl => ?_)
        refine r_iinc C hl (kx := 3) rfl (by decide) (L' := [(4, 0, (x4 + 1)), (3, 0, v4), (2, 0, x3), (5, 0, v4)]) rfl dX5_commonOf_28 (fun ls hl => ?_)
        refine r_goto C (tgt := 7) (by decide) dX5_commonOf_31 ?_
        exact ih _ _ _ _ _ _ _ hf hw (lvh_sub hl [2, 1, 0] rfl)
set_option maxHeartbeats 4000000 in
set_option maxRecDepth 20000 in
theorem w_X5_commonOf_0 (C : Cx p s m args meth c D b cX5_commonOf 6 RX5 (some .int)) {r : Int} {μ' : Mem} {x0 x1 : Int} {μ : Mem} {H : Heap} {locs : List Loc} {ls : Array Slot} (hf : f_X5_commonOf x0 x1 μ = some (r, μ')) (hw : Hw D b μ s.heap H locs) (hl : lvh b ls 6 [(0, 0, x0), (1, 0, x1)]) : W p l e (rm 0) s m args below meth c H locs 0 0 (QM below args s D b (some (.int (jI r))) μ') (F0 m 0 ls []) := by
  unfold f_X5_commonOf at hf
  refine r_iload_n C hl (kx := 0) rfl rfl dX5_commonOf_0 ?_
  refine r_istore_n C hl (by decide) (L' := [(2, 0, x0), (0, 0, x0), (1, 0, x1)]) rfl rfl dX5_commonOf_1 (fun ls hl => ?_)
  refine r_iload_n C hl (kx := 2) rfl rfl dX5_commonOf_2 ?_
  refine r_istore_n C hl (by decide) (L' := [(3, 0, x1), (2, 0, x0), (0, 0, x0), (1, 0, x1)]) rfl rfl dX5_commonOf_3 (fun ls hl => ?_)
  refine r_iconst C dX5_commonOf_4 ?_
  refine r_istore C hl (by decide) (L' := [(4, 0, 0), (3, 0, x1), (2, 0, x0), (0, 0, x0), (1, 0, x1)]) rfl dX5_commonOf_5 (fun ls hl => ?_)
  exact w_X5_commonOf_7 C FU _ _ _ _ _ _ _ hf hw (lvh_sub hl [2, 1, 0] rfl)
theorem c_X5_commonOf (l : Launch) (D : Ds) (b : Nat) {x0 x1 : Int} {μ μ' : Mem} {r : Int} (hf : f_X5_commonOf x0 x1 μ = some (r, μ')) : Ctr l D b yX5_commonOf cX5_commonOf 6 (some .int) 0 [(0, x0), (0, x1)] μ (some (.int (jI r))) μ' := by
  refine Ctr.of (by decide +kernel) (Nat.le_of_ble_eq_true rfl) ?_
  intro p e s m below meth c C hw ls hl
  exact w_X5_commonOf_0 C hf hw hl
set_option maxHeartbeats 4000000 in
set_option maxRecDepth 20000 in
theorem w_X6_fillingsIn_0 (C : Cx p s m args meth c D b cX6_fillingsIn 1 RX6 (some .int)) {r : Int} {μ' : Mem} {x0 : Int} {μ : Mem} {H : Heap} {locs : List Loc} {ls : Array Slot} (hf : f_X6_fillingsIn x0 μ = some (r, μ')) (hw : Hw D b μ s.heap H locs) (hl : lvh b ls 1 [(0, 0, x0)]) : W p l e (rm 0) s m args below meth c H locs 0 0 (QM below args s D b (some (.int (jI r))) μ') (F0 m 0 ls []) := by
  unfold f_X6_fillingsIn at hf
  refine r_iload_n C hl (kx := 0) rfl rfl dX6_fillingsIn_0 ?_
  refine r_bipush C (by decide) dX6_fillingsIn_1 ?_
  refine r_idiv C (by decide) dX6_fillingsIn_3 ?_
  exact r_iret C hw hf dX6_fillingsIn_4
theorem c_X6_fillingsIn (l : Launch) (D : Ds) (b : Nat) {x0 : Int} {μ μ' : Mem} {r : Int} (hf : f_X6_fillingsIn x0 μ = some (r, μ')) : Ctr l D b yX6_fillingsIn cX6_fillingsIn 1 (some .int) 0 [(0, x0)] μ (some (.int (jI r))) μ' := by
  refine Ctr.of (by decide +kernel) (Nat.le_of_ble_eq_true rfl) ?_
  intro p e s m below meth c C hw ls hl
  exact w_X6_fillingsIn_0 C hf hw hl
set_option maxHeartbeats 4000000 in
set_option maxRecDepth 20000 in
theorem w_X6_lanesIn_0 (C : Cx p s m args meth c D b cX6_lanesIn 1 RX6 (some .int)) {r : Int} {μ' : Mem} {x0 : Int} {μ : Mem} {H : Heap} {locs : List Loc} {ls : Array Slot} (hf : f_X6_lanesIn x0 μ = some (r, μ')) (hw : Hw D b μ s.heap H locs) (hl : lvh b ls 1 [(0, 0, x0)]) : W p l e (rm 0) s m args below meth c H locs 0 0 (QM below args s D b (some (.int (jI r))) μ') (F0 m 0 ls []) := by
  unfold f_X6_lanesIn at hf
  refine r_iload_n C hl (kx := 0) rfl rfl dX6_lanesIn_0 ?_
  refine r_bipush C (by decide) dX6_lanesIn_1 ?_
  refine r_irem C (by decide) dX6_lanesIn_3 ?_
  exact r_iret C hw hf dX6_lanesIn_4
theorem c_X6_lanesIn (l : Launch) (D : Ds) (b : Nat) {x0 : Int} {μ μ' : Mem} {r : Int} (hf : f_X6_lanesIn x0 μ = some (r, μ')) : Ctr l D b yX6_lanesIn cX6_lanesIn 1 (some .int) 0 [(0, x0)] μ (some (.int (jI r))) μ' := by
  refine Ctr.of (by decide +kernel) (Nat.le_of_ble_eq_true rfl) ?_
  intro p e s m below meth c C hw ls hl
  exact w_X6_lanesIn_0 C hf hw hl
set_option maxHeartbeats 4000000 in
set_option maxRecDepth 20000 in
theorem w_X6_weightOf_0 (C : Cx p s m args meth c D b cX6_weightOf 2 RX6 (some .int)) {r : Int} {μ' : Mem} {x0 x1 : Int} {μ : Mem} {H : Heap} {locs : List Loc} {ls : Array Slot} (hf : f_X6_weightOf x0 x1 μ = some (r, μ')) (t0 : isK x0 6) (hw : Hw D b μ s.heap H locs) (hl : lvh b ls 2 [(0, 2, x0), (1, 0, x1)]) : W p l e (rm 0) s m args below meth c H locs 0 0 (QM below args s D b (some (.int (jI r))) μ') (F0 m 0 ls []) := by
  unfold f_X6_weightOf at hf
  refine r_iload_n C hl (kx := 1) rfl rfl dX6_weightOf_0 ?_
  refine r_if_lt C (tgt := 10) (by decide) dX6_weightOf_1 (fun c1 => ?_) (fun c1 => ?_)
  · have hf := ite_t c1 hf
    refine r_iconst C dX6_weightOf_10 ?_
    refine r_goto C (tgt := 20) (by decide) dX6_weightOf_11 ?_
    exact r_iret C hw hf dX6_weightOf_20
  · have hf := ite_f c1 hf
    refine r_iload_n C hl (kx := 1) rfl rfl dX6_weightOf_4 ?_
    refine r_bipush C (by decide) dX6_weightOf_5 ?_
    refine r_icmp_lt C (tgt := 14) (by decide) dX6_weightOf_7 (fun c2 => ?_) (fun c2 => ?_)
    · have hf := ite_t c2 hf
      refine r_aload_n C hl (kx := 0) rfl rfl dX6_weightOf_14 ?_
      refine gf_6_9 C hw t0 dX6_weightOf_15 ?_
      refine r_iload_n C hl (kx := 1) rfl rfl dX6_weightOf_18 ?_
      obtain ⟨g3, hf⟩ := gd_some hf
      refine r_iald C hw (n := 9) (ow_6_0 t0) (j := (nrm x1)) rfl g3 (by decide) dX6_weightOf_19 ?_
      exact r_iret C hw hf dX6_weightOf_20
    · have hf := ite_f c2 hf
      refine r_iconst C dX6_weightOf_10 ?_
      refine r_goto C (tgt := 20) (by decide) dX6_weightOf_11 ?_
      exact r_iret C hw hf dX6_weightOf_20
theorem c_X6_weightOf (l : Launch) (D : Ds) (b : Nat) {x0 x1 : Int} {μ μ' : Mem} {r : Int} (t0 : isK x0 6) (hf : f_X6_weightOf x0 x1 μ = some (r, μ')) : Ctr l D b yX6_weightOf cX6_weightOf 2 (some .int) 0 [(2, x0), (0, x1)] μ (some (.int (jI r))) μ' := by
  refine Ctr.of (by decide +kernel) (Nat.le_of_ble_eq_true rfl) ?_
  intro p e s m below meth c C hw ls hl
  exact w_X6_weightOf_0 C hf t0 hw hl
set_option maxHeartbeats 4000000 in
set_option maxRecDepth 20000 in
theorem w_X6_farFrom_0 (C : Cx p s m args meth c D b cX6_farFrom 2 RX6 (some .int)) {r : Int} {μ' : Mem} {x0 x1 : Int} {μ : Mem} {H : Heap} {locs : List Loc} {ls : Array Slot} (hf : f_X6_farFrom x0 x1 μ = some (r, μ')) (t0 : isK x0 6) (hw : Hw D b μ s.heap H locs) (hl : lvh b ls 2 [(0, 2, x0), (1, 0, x1)]) : W p l e (rm 0) s m args below meth c H locs 0 0 (QM below args s D b (some (.int (jI r))) μ') (F0 m 0 ls []) := by
  unfold f_X6_farFrom at hf
  refine r_iload_n C hl (kx := 1) rfl rfl dX6_farFrom_0 ?_
  refine r_if_lt C (tgt := 10) (by decide) dX6_farFrom_1 (fun c1 => ?_) (fun c1 => ?_)
  · have hf := ite_t c1 hf
    refine r_iconst C dX6_farFrom_10 ?_
    refine r_goto C (tgt := 20) (by decide) dX6_farFrom_11 ?_
    exact r_iret C hw hf dX6_farFrom_20
  · have hf := ite_f c1 hf
    refine r_iload_n C hl (kx := 1) rfl rfl dX6_farFrom_4 ?_
    refine r_bipush C (by decide) dX6_farFrom_5 ?_
    refine r_icmp_lt C (tgt := 14) (by decide) dX6_farFrom_7 (fun c2 => ?_) (fun c2 => ?_)
    · have hf := ite_t c2 hf
      refine r_aload_n C hl (kx := 0) rfl rfl dX6_farFrom_14 ?_
      refine gf_6_15 C hw t0 dX6_farFrom_15 ?_
      refine r_iload_n C hl (kx := 1) rfl rfl dX6_farFrom_18 ?_
      obtain ⟨g3, hf⟩ := gd_some hf
      refine r_iald C hw (n := 7) (ow_6_1 t0) (j := (nrm x1)) rfl g3 (by decide) dX6_farFrom_19 ?_
      exact r_iret C hw hf dX6_farFrom_20
    · have hf := ite_f c2 hf
      refine r_iconst C dX6_farFrom_10 ?_
      refine r_goto C (tgt := 20) (by decide) dX6_farFrom_11 ?_
      exact r_iret C hw hf dX6_farFrom_20
theorem c_X6_farFrom (l : Launch) (D : Ds) (b : Nat) {x0 x1 : Int} {μ μ' : Mem} {r : Int} (t0 : isK x0 6) (hf : f_X6_farFrom x0 x1 μ = some (r, μ')) : Ctr l D b yX6_farFrom cX6_farFrom 2 (some .int) 0 [(2, x0), (0, x1)] μ (some (.int (jI r))) μ' := by
  refine Ctr.of (by decide +kernel) (Nat.le_of_ble_eq_true rfl) ?_
  intro p e s m below meth c C hw ls hl
  exact w_X6_farFrom_0 C hf t0 hw hl
set_option maxHeartbeats 4000000 in
set_option maxRecDepth 20000 in
theorem w_X6_relax_45 (C : Cx p s m args meth c D b cX6_relax 6 RX6 (none)) {r : Int} {μ' : Mem} {x0 x1 x3 x4 : Int} {μ : Mem} {H : Heap} {locs : List Loc} {ls : Array Slot} (hf : f_X6_relax_j45 x0 x1 x3 x4 μ = some (r, μ')) (t0 : isK x0 6) (hw : Hw D b μ s.heap H locs) (hl : lvh b ls 6 [(0, 2, x0), (1, 0, x1), (3, 0, x3), (4, 0, x4)]) : W p l e (rm 1) s m args below meth c H locs 0 0 (QM below args s D b none μ') (F0 m 45 ls []) := by
  unfold f_X6_relax_j45 at hf
  refine r_aload_n C hl (kx := 0) rfl rfl dX6_relax_45 ?_
  refine gf_6_15 C hw t0 dX6_relax_46 ?_
  refine r_iload_n C hl (kx := 1) rfl rfl dX6_relax_49 ?_
  refine r_iload C hl (kx := 3) rfl dX6_relax_50 ?_
  refine r_iload_n C hl (kx := 2) rfl rfl dX6_relax_52 ?_
  refine r_iadd C dX6_relax_53 ?_
  obtain ⟨g3, hf⟩ := gd_some hf
  obtain ⟨μ1, e2, hf⟩ := nm_some hf
  refine r_iast C hw (n := 7) (ow_6_1 t0) (j := (nrm x1)) rfl g3 (by decide) dX6_relax_54 (fun H locs hw => ?_)
  rw [← e2] at hw
  exact r_vret C hw hf dX6_relax_55
set_option maxHeartbeats 4000000 in
set_option maxRecDepth 20000 in
theorem w_X6_relax_0 (C : Cx p s m args meth c D b cX6_relax 6 RX6 (none)) {r : Int} {μ' : Mem} {x0 x1 x2 x3 : Int} {μ : Mem} {H : Heap} {locs : List Loc} {ls : Array Slot} (hf : f_X6_relax x0 x1 x2 x3 μ = some (r, μ')) (t0 : isK x0 6) (hw : Hw D b μ s.heap H locs) (hl : lvh b ls 6 [(0, 2, x0), (1, 0, x1), (2, 0, x2), (3, 0, x3)]) : W p l e (rm 1) s m args below meth c H locs 0 0 (QM below args s D b none μ') (F0 m 0 ls []) := by
  unfold f_X6_relax at hf
  refine r_aload_n C hl (kx := 0) rfl rfl dX6_relax_0 ?_
  refine r_iload_n C hl (kx := 2) rfl rfl dX6_relax_1 ?_
  obtain ⟨r2, μ1, e3, hf⟩ := bn_some hf
  refine r_callVv C hw (K := [(0, x2)]) ok6 t0 (c_X6_farFrom l D b t0 e3) mi_X6_farFrom in_X6_farFrom se_X6_farFrom kl_6_68 rfl rfl (lvh_sz hl) (by decide) (Kr := []) rfl (Nat.le_of_ble_eq_true rfl) dX6_relax_2 (fun H locs hw => ?_)
  refine r_istore C hl (by decide) (L' := [(4, 0, r2), (0, 2, x0), (1, 0, x1), (2, 0, x2), (3, 0, x3)]) rfl dX6_relax_5 (fun ls hl => ?_)
  refine r_aload_n C hl (kx := 1) rfl rfl dX6_relax_7 ?_
  refine r_iload_n C hl (kx := 2) rfl rfl dX6_relax_8 ?_
  obtain ⟨r5, μ4, e6, hf⟩ := bn_some hf
  refine r_callVv C hw (K := [(0, x1)]) ok6 t0 (c_X6_farFrom l D b t0 e6) mi_X6_farFrom in_X6_farFrom se_X6_farFrom kl_6_68 rfl rfl (lvh_sz hl) (by decide) (Kr := []) rfl (Nat.le_of_ble_eq_true rfl) dX6_relax_9 (fun H locs hw => ?_)
  refine r_istore C hl (by decide) (L' := [(5, 0, r5), (4, 0, r2), (0, 2, x0), (1, 0, x1), (2, 0, x2), (3, 0, x3)]) rfl dX6_relax_12 (fun ls hl => ?_)
  refine r_iload C hl (kx := 1) rfl dX6_relax_14 ?_
  refine r_iconst C dX6_relax_16 ?_
  refine r_icmp_eq C (tgt := 55) (by decide) dX6_relax_17 (fun c7 => ?_) (fun c7 => ?_)
  · have hf := ite_t c7 hf
    exact r_vret C hw hf dX6_relax_55
  · have hf := ite_f c7 hf
    refine r_iload_n C hl (kx := 3) rfl rfl dX6_relax_20 ?_
    refine r_if_lt C (tgt := 55) (by decide) dX6_relax_21 (fun c8 => ?_) (fun c8 => ?_)
    · have hf := ite_t c8 hf
      exact r_vret C hw hf dX6_relax_55
    · have hf := ite_f c8 hf
      refine r_iload_n C hl (kx := 3) rfl rfl dX6_relax_24 ?_
      refine r_bipush C (by decide) dX6_relax_25 ?_
      refine r_icmp_ge C (tgt := 55) (by decide) dX6_relax_27 (fun c9 => ?_) (fun c9 => ?_)
      · have hf := ite_t c9 hf
        exact r_vret C hw hf dX6_relax_55
      · have hf := ite_f c9 hf
        refine r_iload C hl (kx := 0) rfl dX6_relax_30 ?_
        refine r_iconst C dX6_relax_32 ?_
        refine r_icmp_eq C (tgt := 45) (by decide) dX6_relax_33 (fun c10 => ?_) (fun c10 => ?_)
        · have hf := ite_t c10 hf
          exact w_X6_relax_45 C hf t0 hw (lvh_sub hl [2, 3, 5, 1] rfl)
        · have hf := ite_f c10 hf
          refine r_iload C hl (kx := 1) rfl dX6_relax_36 ?_
          refine r_iload_n C hl (kx := 5) rfl rfl dX6_relax_38 ?_
          refine r_iadd C dX6_relax_39 ?_
          refine r_iload C hl (kx := 0) rfl dX6_relax_40 ?_
          refine r_icmp_ge C (tgt := 55) (by decide) dX6_relax_42 (fun c11 => ?_) (fun c11 => ?_)
          · have hf := ite_t c11 hf
            exact r_vret C hw hf dX6_relax_55
          · have hf := ite_f c11 hf
            exact w_X6_relax_45 C hf t0 hw (lvh_sub hl [2, 3, 5, 1] rfl)
theorem c_X6_relax (l : Launch) (D : Ds) (b : Nat) {x0 x1 x2 x3 : Int} {μ μ' : Mem} {r : Int} (t0 : isK x0 6) (hf : f_X6_relax x0 x1 x2 x3 μ = some (r, μ')) : Ctr l D b yX6_relax cX6_relax 6 (none) 1 [(2, x0), (0, x1), (0, x2), (0, x3)] μ none μ' := by
  refine Ctr.of (by decide +kernel) (Nat.le_of_ble_eq_true rfl) ?_
  intro p e s m below meth c C hw ls hl
  exact w_X6_relax_0 C hf t0 hw hl
set_option maxHeartbeats 4000000 in
set_option maxRecDepth 20000 in
theorem w_X6_measure_119 (C : Cx p s m args meth c D b cX6_measure 5 RX6 (none)) {r : Int} {μ' : Mem} (k28 : Int → Int → Int → Mem → Option (Int × Mem)) (h28 : ∀ (x0 x1 x3 : Int) (μ : Mem) (H : Heap) (locs : List Loc) (ls : Array Slot), k28 x0 x1 x3 μ = some (r, μ') → isK x0 6 → Hw D b μ s.heap H locs → lvh b ls 5 [(0, 2, x0), (1, 2, x1), (3, 0, x3)] → W p l e (rm 2) s m args below meth c H locs 0 0 (QM below args s D b none μ') (F0 m 28 ls [])) {x0 x1 x3 : Int} {μ : Mem} {H : Heap} {locs : List Loc} {ls : Array Slot} (hf : f_X6_measure_j119 k28 x0 x1 x3 μ = some (r, μ')) (t0 : isK x0 6) (hw : Hw D b μ s.heap H locs) (hl : lvh b ls 5 [(0, 2, x0), (1, 2, x1), (3, 0, x3)]) : W p l e (rm 2) s m args below meth c H locs 0 0 (QM below args s D b none μ') (F0 m 119 ls []) := by
  unfold f_X6_measure_j119 at hf
  refine r_iinc C hl (kx := 2) rfl (by decide) (L' := [(3, 0, (x3 + 1)), (0, 2, x0), (1, 2, x1)]) rfl dX6_measure_119 (fun ls hl => ?_)
  refine r_goto C (tgt := 28) (by decide) dX6_measure_122 ?_
  exact h28 _ _ _ _ _ _ _ hf t0 hw (lvh_sub hl [1, 2, 0] rfl)
set_option maxHeartbeats 4000000 in
set_option maxRecDepth 20000 in
theorem w_X6_measure_113 (C : Cx p s m args meth c D b cX6_measure 5 RX6 (none)) {r : Int} {μ' : Mem} (k28 : Int → Int → Int → Mem → Option (Int × Mem)) (h28 : ∀ (x0 x1 x3 : Int) (μ : Mem) (H : Heap) (locs : List Loc) (ls : Array Slot), k28 x0 x1 x3 μ = some (r, μ') → isK x0 6 → Hw D b μ s.heap H locs → lvh b ls 5 [(0, 2, x0), (1, 2, x1), (3, 0, x3)] → W p l e (rm 2) s m args below meth c H locs 0 0 (QM below args s D b none μ') (F0 m 28 ls [])) (k37 : Int → Int → Int → Int → Mem → Option (Int × Mem)) (h37 : ∀ (x0 x1 x3 x4 : Int) (μ : Mem) (H : Heap) (locs : List Loc) (ls : Array Slot), k37 x0 x1 x3 x4 μ = some (r, μ') → isK x0 6 → Hw D b μ s.heap H locs → lvh b ls 5 [(0, 2, x0), (1, 2, x1), (3, 0, x3), (4, 0, x4)] → W p l e (rm 2) s m args below meth c H locs 0 0 (QM below args s D b none μ') (F0 m 37 ls [])) {x0 x1 x3 x4 : Int} {μ : Mem} {H : Heap} {locs : List Loc} {ls : Array Slot} (hf : f_X6_measure_j113 k28 k37 x0 x1 x3 x4 μ = some (r, μ')) (t0 : isK x0 6) (hw : Hw D b μ s.heap H locs) (hl : lvh b ls 5 [(0, 2, x0), (1, 2, x1), (3, 0, x3), (4, 0, x4)]) : W p l e (rm 2) s m args below meth c H locs 0 0 (QM below args s D b none μ') (F0 m 113 ls []) := by
  unfold f_X6_measure_j113 at hf
  refine r_iinc C hl (kx := 3) rfl (by decide) (L' := [(4, 0, (x4 + 1)), (0, 2, x0), (1, 2, x1), (3, 0, x3)]) rfl dX6_measure_113 (fun ls hl => ?_)
  refine r_goto C (tgt := 37) (by decide) dX6_measure_116 ?_
  exact h37 _ _ _ _ _ _ _ _ hf t0 hw (lvh_sub hl [1, 2, 3, 0] rfl)
set_option maxHeartbeats 4000000 in
set_option maxRecDepth 20000 in
theorem w_X6_measure_37 (C : Cx p s m args meth c D b cX6_measure 5 RX6 (none)) {r : Int} {μ' : Mem} (k28 : Int → Int → Int → Mem → Option (Int × Mem)) (h28 : ∀ (x0 x1 x3 : Int) (μ : Mem) (H : Heap) (locs : List Loc) (ls : Array Slot), k28 x0 x1 x3 μ = some (r, μ') → isK x0 6 → Hw D b μ s.heap H locs → lvh b ls 5 [(0, 2, x0), (1, 2, x1), (3, 0, x3)] → W p l e (rm 2) s m args below meth c H locs 0 0 (QM below args s D b none μ') (F0 m 28 ls [])) : ∀ (n : Nat) (x0 x1 x3 x4 : Int) (μ : Mem) (H : Heap) (locs : List Loc) (ls : Array Slot), f_X6_measure_w37 k28 n x0 x1 x3 x4 μ = some (r, μ') → isK x0 6 → Hw D b μ s.heap H locs → lvh b ls 5 [(0, 2, x0), (1, 2, x1), (3, 0, x3), (4, 0, x4)] → W p l e (rm 2) s m args below meth c H locs 0 0 (QM below args s D b none μ') (F0 m 37 ls []) := by
  intro n
  induction n with
  | zero => intro x0 x1 x3 x4 μ H locs ls hf; cases hf
  | succ n ih =>
    intro x0 x1 x3 x4 μ H locs ls hf t0 hw hl
    rw [f_X6_measure_w37.eq_2] at hf
    refine r_iload C hl (kx := 3) rfl dX6_measure_37 ?_
    refine r_aload_n C hl (kx := 1) rfl rfl dX6_measure_39 ?_
    obtain ⟨g1, hf⟩ := gd_some hf
    refine gf_6_51 C hw g1 dX6_measure_40 ?_
    refine r_icmp_ge C (tgt := 119) (by decide) dX6_measure_43 (fun c2 => ?_) (fun c2 => ?_)
    · have hf := ite_t c2 hf
      exact w_X6_measure_119 C _ h28 hf t0 hw (lvh_sub hl [0, 1, 2] rfl)
    · have hf := ite_f c2 hf
      refine r_iload C hl (kx := 3) rfl dX6_measure_46 ?_
      refine r_bipush C (by decide) dX6_measure_48 ?_
      refine r_icmp_ge C (tgt := 119) (by decide) dX6_measure_50 (fun c3 => ?_) (fun c3 => ?_)
      · have hf := ite_t c3 hf
        exact w_X6_measure_119 C _ h28 hf t0 hw (lvh_sub hl [0, 1, 2] rfl)
      · have hf := ite_f c3 hf
        refine r_aload_n C hl (kx := 0) rfl rfl dX6_measure_53 ?_
        refine r_iload C hl (kx := 3) rfl dX6_measure_54 ?_
        obtain ⟨r5, μ4, e6, hf⟩ := bn_some hf
        refine r_callVv C hw (K := [(0, x4)]) ok6 t0 (c_X6_weightOf l D b t0 e6) mi_X6_weightOf in_X6_weightOf se_X6_weightOf kl_6_55 rfl rfl (lvh_sz hl) (by decide) (Kr := []) rfl (Nat.le_of_ble_eq_true rfl) dX6_measure_56 (fun H locs hw => ?_)
        refine r_iconst C dX6_measure_59 ?_
        refine r_icmp_eq C (tgt := 113) (by decide) dX6_measure_60 (fun c7 => ?_) (fun c7 => ?_)
        · have hf := ite_t c7 hf
          exact w_X6_measure_113 C _ h28 _ ih hf t0 hw (lvh_sub hl [0, 1, 2, 3] rfl)
        · have hf := ite_f c7 hf
          refine r_aload_n C hl (kx := 0) rfl rfl dX6_measure_63 ?_
          refine r_aload_n C hl (kx := 1) rfl rfl dX6_measure_64 ?_
          refine gf_6_58 C hw g1 dX6_measure_65 ?_
          refine r_iload C hl (kx := 3) rfl dX6_measure_68 ?_
          obtain ⟨g8, hf⟩ := gd_some hf
          refine r_iald C hw (n := 9) (ow_3_8 g1) (j := (nrm x4)) rfl g8 (by decide) dX6_measure_70 ?_
          refine r_aload_n C hl (kx := 1) rfl rfl dX6_measure_71 ?_
          refine gf_6_61 C hw g1 dX6_measure_72 ?_
          refine r_iload C hl (kx := 3) rfl dX6_measure_75 ?_
          obtain ⟨g9, hf⟩ := gd_some hf
          refine r_iald C hw (n := 9) (ow_3_9 g1) (j := (nrm x4)) rfl g9 (by decide) dX6_measure_77 ?_
          refine r_aload_n C hl (kx := 0) rfl rfl dX6_measure_78 ?_
          refine gf_6_9 C hw t0 dX6_measure_79 ?_
          refine r_iload C hl (kx := 3) rfl dX6_measure_82 ?_
          obtain ⟨g10, hf⟩ := gd_some hf
          refine r_iald C hw (n := 9) (ow_6_0 t0) (j := (nrm x4)) rfl g10 (by decide) dX6_measure_84 ?_
          obtain ⟨r12, μ11, e13, hf⟩ := bn_some hf
          refine r_callVn C hw (K := [(0, (μ4 (x1 + 1) (nrm x4))), (0, (μ4 (x1 + 2) (nrm x4))), (0, (μ4 (x0 + 1) (nrm x4)))]) ok6 t0 (c_X6_relax l D b t0 e13) mi_X6_relax in_X6_relax se_X6_relax kl_6_64 rfl rfl (lvh_sz hl) (by decide) (Kr := []) rfl (Nat.le_of_ble_eq_true rfl) dX6_measure_85 (fun H locs hw => ?_)
          refine r_aload_n C hl (kx := 0) rfl rfl dX6_measure_88 ?_
          refine r_aload_n C hl (kx := 1) rfl rfl dX6_measure_89 ?_
          refine gf_6_61 C hw g1 dX6_measure_90 ?_
          refine r_iload C hl (kx := 3) rfl dX6_measure_93 ?_
          obtain ⟨g14, hf⟩ := gd_some hf
          refine r_iald C hw (n := 9) (ow_3_9 g1) (j := (nrm x4)) rfl g14 (by decide) dX6_measure_95 ?_
          refine r_aload_n C hl (kx := 1) rfl rfl dX6_measure_96 ?_
          refine gf_6_58 C hw g1 dX6_measure_97 ?_
          refine r_iload C hl (kx := 3) rfl dX6_measure_100 ?_
          obtain ⟨g15, hf⟩ := gd_some hf
          refine r_iald C hw (n := 9) (ow_3_8 g1) (j := (nrm x4)) rfl g15 (by decide) dX6_measure_102 ?_
          refine r_aload_n C hl (kx := 0) rfl rfl dX6_measure_103 ?_
          refine gf_6_9 C hw t0 dX6_measure_104 ?_
          refine r_iload C hl (kx := 3) rfl dX6_measure_107 ?_
          obtain ⟨g16, hf⟩ := gd_some hf
          refine r_iald C hw (n := 9) (ow_6_0 t0) (j := (nrm x4)) rfl g16 (by decide) dX6_measure_109 ?_
          obtain ⟨r18, μ17, e19, hf⟩ := bn_some hf
          refine r_callVn C hw (K := [(0, (μ11 (x1 + 2) (nrm x4))), (0, (μ11 (x1 + 1) (nrm x4))), (0, (μ11 (x0 + 1) (nrm x4)))]) ok6 t0 (c_X6_relax l D b t0 e19) mi_X6_relax in_X6_relax se_X6_relax kl_6_64 rfl rfl (lvh_sz hl) (by decide) (Kr := []) rfl (Nat.le_of_ble_eq_true rfl) dX6_measure_110 (fun H locs hw => ?_)
          exact w_X6_measure_113 C _ h28 _ ih hf t0 hw (lvh_sub hl [0, 1, 2, 3] rfl)
set_option maxHeartbeats 4000000 in
set_option maxRecDepth 20000 in
theorem w_X6_measure_28 (C : Cx p s m args meth c D b cX6_measure 5 RX6 (none)) {r : Int} {μ' : Mem} : ∀ (n : Nat) (x0 x1 x3 : Int) (μ : Mem) (H : Heap) (locs : List Loc) (ls : Array Slot), f_X6_measure_w28 n x0 x1 x3 μ = some (r, μ') → isK x0 6 → Hw D b μ s.heap H locs → lvh b ls 5 [(0, 2, x0), (1, 2, x1), (3, 0, x3)] → W p l e (rm 2) s m args below meth c H locs 0 0 (QM below args s D b none μ') (F0 m 28 ls []) := by
  intro n
  induction n with
  | zero => intro x0 x1 x3 μ H locs ls hf; cases hf
  | succ n ih =>
    intro x0 x1 x3 μ H locs ls hf t0 hw hl
    rw [f_X6_measure_w28.eq_2] at hf
    refine r_iload_n C hl (kx := 2) rfl rfl dX6_measure_28 ?_
    refine r_bipush C (by decide) dX6_measure_29 ?_
    refine r_icmp_ge C (tgt := 125) (by decide) dX6_measure_31 (fun c1 => ?_) (fun c1 => ?_)
    · have hf := ite_t c1 hf
      exact r_vret C hw hf dX6_measure_125
    · have hf := ite_f c1 hf
      refine r_iconst C dX6_measure_34 ?_
      refine r_istore C hl (by decide) (L' := [(4, 0, 0), (0, 2, x0), (1, 2, x1), (3, 0, x3)]) rfl dX6_measure_35 (fun ls hl => ?_)
      exact w_X6_measure_37 C _ ih FU _ _ _ _ _ _ _ _ hf t0 hw (lvh_sub hl [1, 2, 3, 0] rfl)
set_option maxHeartbeats 4000000 in
set_option maxRecDepth 20000 in
theorem w_X6_measure_0 (C : Cx p s m args meth c D b cX6_measure 5 RX6 (none)) {r : Int} {μ' : Mem} {x0 x1 x2 : Int} {μ : Mem} {H : Heap} {locs : List Loc} {ls : Array Slot} (hf : f_X6_measure x0 x1 x2 μ = some (r, μ')) (t0 : isK x0 6) (hw : Hw D b μ s.heap H locs) (hl : lvh b ls 5 [(0, 2, x0), (1, 2, x1), (2, 0, x2)]) : W p l e (rm 2) s m args below meth c H locs 0 0 (QM below args s D b none μ') (F0 m 0 ls []) := by
  unfold f_X6_measure at hf
  refine r_aload_n C hl (kx := 0) rfl rfl dX6_measure_0 ?_
  refine gf_6_15 C hw t0 dX6_measure_1 ?_
  refine r_iconst C dX6_measure_4 ?_
  obtain ⟨r2, μ1, e3, hf⟩ := bn_some hf
  refine r_callSn C hw (K := [(2, (x0 + 2)), (0, (-1))]) (c_J7_fill_53178 l D b e3) mi_J7_fill_53178 st_J7_fill_53178 kl_6_45 rfl rfl (lvh_sz hl) (by decide) (Kr := []) rfl (Nat.le_of_ble_eq_true rfl) dX6_measure_5 (fun H locs hw => ?_)
  refine r_iload_n C hl (kx := 2) rfl rfl dX6_measure_8 ?_
  refine r_if_lt C (tgt := 18) (by decide) dX6_measure_9 (fun c4 => ?_) (fun c4 => ?_)
  · have hf := ite_t c4 hf
    exact r_vret C hw hf dX6_measure_18
  · have hf := ite_f c4 hf
    refine r_iload_n C hl (kx := 2) rfl rfl dX6_measure_12 ?_
    refine r_bipush C (by decide) dX6_measure_13 ?_
    refine r_icmp_lt C (tgt := 19) (by decide) dX6_measure_15 (fun c5 => ?_) (fun c5 => ?_)
    · have hf := ite_t c5 hf
      refine r_aload_n C hl (kx := 0) rfl rfl dX6_measure_19 ?_
      refine gf_6_15 C hw t0 dX6_measure_20 ?_
      refine r_iload_n C hl (kx := 2) rfl rfl dX6_measure_23 ?_
      refine r_iconst C dX6_measure_24 ?_
      obtain ⟨g8, hf⟩ := gd_some hf
      obtain ⟨μ6, e7, hf⟩ := nm_some hf
      refine r_iast C hw (n := 7) (ow_6_1 t0) (j := (nrm x2)) rfl g8 (by decide) dX6_measure_25 (fun H locs hw => ?_)
      rw [← e7] at hw
      refine r_iconst C dX6_measure_26 ?_
      refine r_istore_n C hl (by decide) (L' := [(3, 0, 0), (0, 2, x0), (1, 2, x1), (2, 0, x2)]) rfl rfl dX6_measure_27 (fun ls hl => ?_)
      exact w_X6_measure_28 C FU _ _ _ _ _ _ _ hf t0 hw (lvh_sub hl [1, 2, 0] rfl)
    · have hf := ite_f c5 hf
      exact r_vret C hw hf dX6_measure_18
theorem c_X6_measure (l : Launch) (D : Ds) (b : Nat) {x0 x1 x2 : Int} {μ μ' : Mem} {r : Int} (t0 : isK x0 6) (hf : f_X6_measure x0 x1 x2 μ = some (r, μ')) : Ctr l D b yX6_measure cX6_measure 5 (none) 2 [(2, x0), (2, x1), (0, x2)] μ none μ' := by
  refine Ctr.of (by decide +kernel) (Nat.le_of_ble_eq_true rfl) ?_
  intro p e s m below meth c C hw ls hl
  exact w_X6_measure_0 C hf t0 hw hl
set_option maxHeartbeats 4000000 in
set_option maxRecDepth 20000 in
theorem w_X6_measureOpen_26 (C : Cx p s m args meth c D b cX6_measureOpen 4 RX6 (none)) {r : Int} {μ' : Mem} (k2 : Int → Int → Int → Int → Mem → Option (Int × Mem)) (h2 : ∀ (x0 x1 x2 x3 : Int) (μ : Mem) (H : Heap) (locs : List Loc) (ls : Array Slot), k2 x0 x1 x2 x3 μ = some (r, μ') → isK x0 6 → Hw D b μ s.heap H locs → lvh b ls 4 [(0, 2, x0), (1, 2, x1), (2, 0, x2), (3, 0, x3)] → W p l e (rm 4) s m args below meth c H locs 0 0 (QM below args s D b none μ') (F0 m 2 ls [])) {x0 x1 x2 x3 s0 s1 s2 : Int} {μ : Mem} {H : Heap} {locs : List Loc} {ls : Array Slot} (hf : f_X6_measureOpen_j26 k2 x0 x1 x2 x3 s0 s1 s2 μ = some (r, μ')) (t0 : isK x0 6) (hw : Hw D b μ s.heap H locs) (hl : lvh b ls 4 [(0, 2, x0), (1, 2, x1), (2, 0, x2), (3, 0, x3)]) : W p l e (rm 4) s m args below meth c H locs 0 0 (QM below args s D b none μ') (F0 m 26 ls [.int (jI s2), .int (jI s1), rfv b s0]) := by
  unfold f_X6_measureOpen_j26 at hf
  obtain ⟨g3, hf⟩ := gd_some hf
  obtain ⟨μ1, e2, hf⟩ := nm_some hf
  refine r_iastA C hw g3 dX6_measureOpen_26 (fun H locs hw => ?_)
  rw [← e2] at hw
  refine r_iinc C hl (kx := 3) rfl (by decide) (L' := [(3, 0, (x3 + 1)), (0, 2, x0), (1, 2, x1), (2, 0, x2)]) rfl dX6_measureOpen_27 (fun ls hl => ?_)
  refine r_goto C (tgt := 2) (by decide) dX6_measureOpen_30 ?_
  exact h2 _ _ _ _ _ _ _ _ hf t0 hw (lvh_sub hl [1, 2, 3, 0] rfl)
set_option maxHeartbeats 4000000 in
set_option maxRecDepth 20000 in
theorem w_X6_measureOpen_2 (C : Cx p s m args meth c D b cX6_measureOpen 4 RX6 (none)) {r : Int} {μ' : Mem} : ∀ (n : Nat) (x0 x1 x2 x3 : Int) (μ : Mem) (H : Heap) (locs : List Loc) (ls : Array Slot), f_X6_measureOpen_w2 n x0 x1 x2 x3 μ = some (r, μ') → isK x0 6 → Hw D b μ s.heap H locs → lvh b ls 4 [(0, 2, x0), (1, 2, x1), (2, 0, x2), (3, 0, x3)] → W p l e (rm 4) s m args below meth c H locs 0 0 (QM below args s D b none μ') (F0 m 2 ls []) := by
  intro n
  induction n with
  | zero => intro x0 x1 x2 x3 μ H locs ls hf; cases hf
  | succ n ih =>
    intro x0 x1 x2 x3 μ H locs ls hf t0 hw hl
    rw [f_X6_measureOpen_w2.eq_2] at hf
    refine r_iload_n C hl (kx := 3) rfl rfl dX6_measureOpen_2 ?_
    refine r_bipush C (by decide) dX6_measureOpen_3 ?_
    refine r_icmp_ge C (tgt := 33) (by decide) dX6_measureOpen_5 (fun c1 => ?_) (fun c1 => ?_)
    · have hf := ite_t c1 hf
      refine r_aload_n C hl (kx := 0) rfl rfl dX6_measureOpen_33 ?_
      refine r_aload_n C hl (kx := 1) rfl rfl dX6_measureOpen_34 ?_
      obtain ⟨g2, hf⟩ := gd_some hf
      refine gf_6_24 C hw g2 dX6_measureOpen_35 ?_
      refine r_iload_n C hl (kx := 2) rfl rfl dX6_measureOpen_38 ?_
      obtain ⟨r4, μ3, e5, hf⟩ := bn_some hf
      refine r_callVn C hw (K := [(2, (μ x1 0)), (0, x2)]) ok6 t0 (c_X6_measure l D b t0 e5) mi_X6_measure in_X6_measure se_X6_measure kl_6_28 rfl rfl (lvh_sz hl) (by decide) (Kr := []) rfl (Nat.le_of_ble_eq_true rfl) dX6_measureOpen_39 (fun H locs hw => ?_)
      exact r_vret C hw hf dX6_measureOpen_42
    · have hf := ite_f c1 hf
      refine r_aload_n C hl (kx := 0) rfl rfl dX6_measureOpen_8 ?_
      refine gf_6_9 C hw t0 dX6_measureOpen_9 ?_
      refine r_iload_n C hl (kx := 3) rfl rfl dX6_measureOpen_12 ?_
      refine r_aload_n C hl (kx := 1) rfl rfl dX6_measureOpen_13 ?_
      refine r_iload_n C hl (kx := 3) rfl rfl dX6_measureOpen_14 ?_
      obtain ⟨g6, hf⟩ := gd_some hf
      obtain ⟨r8, μ7, e9, hf⟩ := bn_some hf
      refine r_callVv C hw (K := [(0, x3)]) ok0 g6 (c_X0_isOpen l D b g6 e9) mi_X0_isOpen in_X0_isOpen se_X0_isOpen kl_6_18 rfl rfl (lvh_sz hl) (by decide) (Kr := [(0, x3), (2, (x0 + 1))]) rfl (Nat.le_of_ble_eq_true rfl) dX6_measureOpen_15 (fun H locs hw => ?_)
      refine r_if_eq C (tgt := 25) (by decide) dX6_measureOpen_18 (fun c10 => ?_) (fun c10 => ?_)
      · have hf := ite_t c10 hf
        refine r_iconst C dX6_measureOpen_25 ?_
        exact w_X6_measureOpen_26 C _ ih hf t0 hw (lvh_sub hl [0, 1, 2, 3] rfl)
      · have hf := ite_f c10 hf
        refine r_iconst C dX6_measureOpen_21 ?_
        refine r_goto C (tgt := 26) (by decide) dX6_measureOpen_22 ?_
        exact w_X6_measureOpen_26 C _ ih hf t0 hw (lvh_sub hl [0, 1, 2, 3] rfl)
set_option maxHeartbeats 4000000 in
set_option maxRecDepth 20000 in
theorem w_X6_measureOpen_0 (C : Cx p s m args meth c D b cX6_measureOpen 4 RX6 (none)) {r : Int} {μ' : Mem} {x0 x1 x2 : Int} {μ : Mem} {H : Heap} {locs : List Loc} {ls : Array Slot} (hf : f_X6_measureOpen x0 x1 x2 μ = some (r, μ')) (t0 : isK x0 6) (hw : Hw D b μ s.heap H locs) (hl : lvh b ls 4 [(0, 2, x0), (1, 2, x1), (2, 0, x2)]) : W p l e (rm 4) s m args below meth c H locs 0 0 (QM below args s D b none μ') (F0 m 0 ls []) := by
  unfold f_X6_measureOpen at hf
  refine r_iconst C dX6_measureOpen_0 ?_
  refine r_istore_n C hl (by decide) (L' := [(3, 0, 0), (0, 2, x0), (1, 2, x1), (2, 0, x2)]) rfl rfl dX6_measureOpen_1 (fun ls hl => ?_)
  exact w_X6_measureOpen_2 C FU _ _ _ _ _ _ _ _ hf t0 hw (lvh_sub hl [1, 2, 3, 0] rfl)
theorem c_X6_measureOpen (l : Launch) (D : Ds) (b : Nat) {x0 x1 x2 : Int} {μ μ' : Mem} {r : Int} (t0 : isK x0 6) (hf : f_X6_measureOpen x0 x1 x2 μ = some (r, μ')) : Ctr l D b yX6_measureOpen cX6_measureOpen 4 (none) 4 [(2, x0), (2, x1), (0, x2)] μ none μ' := by
  refine Ctr.of (by decide +kernel) (Nat.le_of_ble_eq_true rfl) ?_
  intro p e s m below meth c C hw ls hl
  exact w_X6_measureOpen_0 C hf t0 hw hl
set_option maxHeartbeats 4000000 in
set_option maxRecDepth 20000 in
theorem w_X6_weighFillings_49 (C : Cx p s m args meth c D b cX6_weighFillings 4 RX6 (none)) {r : Int} {μ' : Mem} (k2 : Int → Int → Int → Mem → Option (Int × Mem)) (h2 : ∀ (x0 x1 x2 : Int) (μ : Mem) (H : Heap) (locs : List Loc) (ls : Array Slot), k2 x0 x1 x2 μ = some (r, μ') → isK x0 6 → Hw D b μ s.heap H locs → lvh b ls 4 [(0, 2, x0), (1, 2, x1), (2, 0, x2)] → W p l e (rm 4) s m args below meth c H locs 0 0 (QM below args s D b none μ') (F0 m 2 ls [])) {x0 x1 x2 s0 s1 s2 : Int} {μ : Mem} {H : Heap} {locs : List Loc} {ls : Array Slot} (hf : f_X6_weighFillings_j49 k2 x0 x1 x2 s0 s1 s2 μ = some (r, μ')) (t0 : isK x0 6) (hw : Hw D b μ s.heap H locs) (hl : lvh b ls 4 [(0, 2, x0), (1, 2, x1), (2, 0, x2)]) : W p l e (rm 4) s m args below meth c H locs 0 0 (QM below args s D b none μ') (F0 m 49 ls [.int (jI s2), .int (jI s1), rfv b s0]) := by
  unfold f_X6_weighFillings_j49 at hf
  obtain ⟨g3, hf⟩ := gd_some hf
  obtain ⟨μ1, e2, hf⟩ := nm_some hf
  refine r_iastA C hw g3 dX6_weighFillings_49 (fun H locs hw => ?_)
  rw [← e2] at hw
  refine r_iinc C hl (kx := 2) rfl (by decide) (L' := [(2, 0, (x2 + 1)), (0, 2, x0), (1, 2, x1)]) rfl dX6_weighFillings_50 (fun ls hl => ?_)
  refine r_goto C (tgt := 2) (by decide) dX6_weighFillings_53 ?_
  exact h2 _ _ _ _ _ _ _ hf t0 hw (lvh_sub hl [1, 2, 0] rfl)
set_option maxHeartbeats 4000000 in
set_option maxRecDepth 20000 in
theorem w_X6_weighFillings_28 (C : Cx p s m args meth c D b cX6_weighFillings 4 RX6 (none)) {r : Int} {μ' : Mem} (k2 : Int → Int → Int → Mem → Option (Int × Mem)) (h2 : ∀ (x0 x1 x2 : Int) (μ : Mem) (H : Heap) (locs : List Loc) (ls : Array Slot), k2 x0 x1 x2 μ = some (r, μ') → isK x0 6 → Hw D b μ s.heap H locs → lvh b ls 4 [(0, 2, x0), (1, 2, x1), (2, 0, x2)] → W p l e (rm 4) s m args below meth c H locs 0 0 (QM below args s D b none μ') (F0 m 2 ls [])) {x0 x1 x2 s0 : Int} {μ : Mem} {H : Heap} {locs : List Loc} {ls : Array Slot} (hf : f_X6_weighFillings_j28 k2 x0 x1 x2 s0 μ = some (r, μ')) (t0 : isK x0 6) (hw : Hw D b μ s.heap H locs) (hl : lvh b ls 4 [(0, 2, x0), (1, 2, x1), (2, 0, x2)]) : W p l e (rm 4) s m args below meth c H locs 0 0 (QM below args s D b none μ') (F0 m 28 ls [.int (jI s0)]) := by
  unfold f_X6_weighFillings_j28 at hf
  refine r_istore_n C hl (by decide) (L' := [(3, 0, s0), (0, 2, x0), (1, 2, x1), (2, 0, x2)]) rfl rfl dX6_weighFillings_28 (fun ls hl => ?_)
  refine r_aload_n C hl (kx := 1) rfl rfl dX6_weighFillings_29 ?_
  refine gf_6_9 C hw t0 dX6_weighFillings_30 ?_
  refine r_iload_n C hl (kx := 3) rfl rfl dX6_weighFillings_33 ?_
  refine r_iload_n C hl (kx := 0) rfl rfl dX6_weighFillings_34 ?_
  refine r_iconst C dX6_weighFillings_35 ?_
  refine r_icmp_ne C (tgt := 43) (by decide) dX6_weighFillings_36 (fun c1 => ?_) (fun c1 => ?_)
  · have hf := ite_f c1 hf
    refine r_iload_n C hl (kx := 0) rfl rfl dX6_weighFillings_43 ?_
    refine r_bipush C (by decide) dX6_weighFillings_44 ?_
    refine r_imul C dX6_weighFillings_46 ?_
    refine r_iconst C dX6_weighFillings_47 ?_
    refine r_iadd C dX6_weighFillings_48 ?_
    exact w_X6_weighFillings_49 C _ h2 hf t0 hw (lvh_sub hl [1, 2, 3] rfl)
  · have hf := ite_t c1 hf
    refine r_iconst C dX6_weighFillings_39 ?_
    refine r_goto C (tgt := 49) (by decide) dX6_weighFillings_40 ?_
    exact w_X6_weighFillings_49 C _ h2 hf t0 hw (lvh_sub hl [1, 2, 3] rfl)
set_option maxHeartbeats 4000000 in
set_option maxRecDepth 20000 in
theorem w_X6_weighFillings_2 (C : Cx p s m args meth c D b cX6_weighFillings 4 RX6 (none)) {r : Int} {μ' : Mem} : ∀ (n : Nat) (x0 x1 x2 : Int) (μ : Mem) (H : Heap) (locs : List Loc) (ls : Array Slot), f_X6_weighFillings_w2 n x0 x1 x2 μ = some (r, μ') → isK x0 6 → Hw D b μ s.heap H locs → lvh b ls 4 [(0, 2, x0), (1, 2, x1), (2, 0, x2)] → W p l e (rm 4) s m args below meth c H locs 0 0 (QM below args s D b none μ') (F0 m 2 ls []) := by
  intro n
  induction n with
  | zero => intro x0 x1 x2 μ H locs ls hf; cases hf
  | succ n ih =>
    intro x0 x1 x2 μ H locs ls hf t0 hw hl
    rw [f_X6_weighFillings_w2.eq_2] at hf
    refine r_iload_n C hl (kx := 2) rfl rfl dX6_weighFillings_2 ?_
    refine r_bipush C (by decide) dX6_weighFillings_3 ?_
    refine r_icmp_ge C (tgt := 56) (by decide) dX6_weighFillings_5 (fun c1 => ?_) (fun c1 => ?_)
    · have hf := ite_t c1 hf
      exact r_vret C hw hf dX6_weighFillings_56
    · have hf := ite_f c1 hf
      refine r_aload_n C hl (kx := 1) rfl rfl dX6_weighFillings_8 ?_
      obtain ⟨g2, hf⟩ := gd_some hf
      refine gf_6_24 C hw g2 dX6_weighFillings_9 ?_
      refine r_iload_n C hl (kx := 2) rfl rfl dX6_weighFillings_12 ?_
      obtain ⟨g3, hf⟩ := gd_some hf
      obtain ⟨r5, μ4, e6, hf⟩ := bn_some hf
      refine r_callVv C hw (K := [(0, x2)]) ok3 g3 (c_X3_hasLane l D b g3 e6) mi_X3_hasLane in_X3_hasLane se_X3_hasLane kl_6_36 rfl rfl (lvh_sz hl) (by decide) (Kr := []) rfl (Nat.le_of_ble_eq_true rfl) dX6_weighFillings_13 (fun H locs hw => ?_)
      refine r_if_eq C (tgt := 27) (by decide) dX6_weighFillings_16 (fun c7 => ?_) (fun c7 => ?_)
      · have hf := ite_t c7 hf
        refine r_iconst C dX6_weighFillings_27 ?_
        exact w_X6_weighFillings_28 C _ ih hf t0 hw (lvh_sub hl [0, 1, 2] rfl)
      · have hf := ite_f c7 hf
        refine r_aload_n C hl (kx := 1) rfl rfl dX6_weighFillings_19 ?_
        refine r_iload_n C hl (kx := 2) rfl rfl dX6_weighFillings_20 ?_
        obtain ⟨r9, μ8, e10, hf⟩ := bn_some hf
        refine r_callVv C hw (K := [(0, x2)]) ok0 g2 (c_X0_fillingsOf l D b g2 e10) mi_X0_fillingsOf in_X0_fillingsOf se_X0_fillingsOf kl_6_41 rfl rfl (lvh_sz hl) (by decide) (Kr := []) rfl (Nat.le_of_ble_eq_true rfl) dX6_weighFillings_21 (fun H locs hw => ?_)
        refine r_goto C (tgt := 28) (by decide) dX6_weighFillings_24 ?_
        exact w_X6_weighFillings_28 C _ ih hf t0 hw (lvh_sub hl [0, 1, 2] rfl)
set_option maxHeartbeats 4000000 in
set_option maxRecDepth 20000 in
theorem w_X6_weighFillings_0 (C : Cx p s m args meth c D b cX6_weighFillings 4 RX6 (none)) {r : Int} {μ' : Mem} {x0 x1 : Int} {μ : Mem} {H : Heap} {locs : List Loc} {ls : Array Slot} (hf : f_X6_weighFillings x0 x1 μ = some (r, μ')) (t0 : isK x0 6) (hw : Hw D b μ s.heap H locs) (hl : lvh b ls 4 [(0, 2, x0), (1, 2, x1)]) : W p l e (rm 4) s m args below meth c H locs 0 0 (QM below args s D b none μ') (F0 m 0 ls []) := by
  unfold f_X6_weighFillings at hf
  refine r_iconst C dX6_weighFillings_0 ?_
  refine r_istore_n C hl (by decide) (L' := [(2, 0, 0), (0, 2, x0), (1, 2, x1)]) rfl rfl dX6_weighFillings_1 (fun ls hl => ?_)
  exact w_X6_weighFillings_2 C FU _ _ _ _ _ _ _ hf t0 hw (lvh_sub hl [1, 2, 0] rfl)
theorem c_X6_weighFillings (l : Launch) (D : Ds) (b : Nat) {x0 x1 : Int} {μ μ' : Mem} {r : Int} (t0 : isK x0 6) (hf : f_X6_weighFillings x0 x1 μ = some (r, μ')) : Ctr l D b yX6_weighFillings cX6_weighFillings 4 (none) 4 [(2, x0), (2, x1)] μ none μ' := by
  refine Ctr.of (by decide +kernel) (Nat.le_of_ble_eq_true rfl) ?_
  intro p e s m below meth c C hw ls hl
  exact w_X6_weighFillings_0 C hf t0 hw hl
set_option maxHeartbeats 4000000 in
set_option maxRecDepth 20000 in
theorem w_X6_measureFillings_0 (C : Cx p s m args meth c D b cX6_measureFillings 3 RX6 (none)) {r : Int} {μ' : Mem} {x0 x1 x2 : Int} {μ : Mem} {H : Heap} {locs : List Loc} {ls : Array Slot} (hf : f_X6_measureFillings x0 x1 x2 μ = some (r, μ')) (t0 : isK x0 6) (hw : Hw D b μ s.heap H locs) (hl : lvh b ls 3 [(0, 2, x0), (1, 2, x1), (2, 0, x2)]) : W p l e (rm 5) s m args below meth c H locs 0 0 (QM below args s D b none μ') (F0 m 0 ls []) := by
  unfold f_X6_measureFillings at hf
  refine r_aload_n C hl (kx := 0) rfl rfl dX6_measureFillings_0 ?_
  refine r_aload_n C hl (kx := 1) rfl rfl dX6_measureFillings_1 ?_
  obtain ⟨r2, μ1, e3, hf⟩ := bn_some hf
  refine r_callVn C hw (K := [(2, x1)]) ok6 t0 (c_X6_weighFillings l D b t0 e3) mi_X6_weighFillings in_X6_weighFillings se_X6_weighFillings kl_6_32 rfl rfl (lvh_sz hl) (by decide) (Kr := []) rfl (Nat.le_of_ble_eq_true rfl) dX6_measureFillings_2 (fun H locs hw => ?_)
  refine r_aload_n C hl (kx := 0) rfl rfl dX6_measureFillings_5 ?_
  refine r_aload_n C hl (kx := 1) rfl rfl dX6_measureFillings_6 ?_
  obtain ⟨g4, hf⟩ := gd_some hf
  refine gf_6_24 C hw g4 dX6_measureFillings_7 ?_
  refine r_iload_n C hl (kx := 2) rfl rfl dX6_measureFillings_10 ?_
  obtain ⟨r6, μ5, e7, hf⟩ := bn_some hf
  refine r_callVn C hw (K := [(2, (μ1 x1 0)), (0, x2)]) ok6 t0 (c_X6_measure l D b t0 e7) mi_X6_measure in_X6_measure se_X6_measure kl_6_28 rfl rfl (lvh_sz hl) (by decide) (Kr := []) rfl (Nat.le_of_ble_eq_true rfl) dX6_measureFillings_11 (fun H locs hw => ?_)
  exact r_vret C hw hf dX6_measureFillings_14
theorem c_X6_measureFillings (l : Launch) (D : Ds) (b : Nat) {x0 x1 x2 : Int} {μ μ' : Mem} {r : Int} (t0 : isK x0 6) (hf : f_X6_measureFillings x0 x1 x2 μ = some (r, μ')) : Ctr l D b yX6_measureFillings cX6_measureFillings 3 (none) 5 [(2, x0), (2, x1), (0, x2)] μ none μ' := by
  refine Ctr.of (by decide +kernel) (Nat.le_of_ble_eq_true rfl) ?_
  intro p e s m below meth c C hw ls hl
  exact w_X6_measureFillings_0 C hf t0 hw hl
set_option maxHeartbeats 4000000 in
set_option maxRecDepth 20000 in
theorem w_X6_firstOnward_67 (C : Cx p s m args meth c D b cX6_firstOnward 7 RX6 (some .int)) {r : Int} {μ' : Mem} (k9 : Int → Int → Int → Int → Int → Mem → Option (Int × Mem)) (h9 : ∀ (x0 x1 x2 x3 x4 : Int) (μ : Mem) (H : Heap) (locs : List Loc) (ls : Array Slot), k9 x0 x1 x2 x3 x4 μ = some (r, μ') → isK x0 6 → Hw D b μ s.heap H locs → lvh b ls 7 [(0, 2, x0), (1, 2, x1), (2, 0, x2), (3, 0, x3), (4, 0, x4)] → W p l e (rm 2) s m args below meth c H locs 0 0 (QM below args s D b (some (.int (jI r))) μ') (F0 m 9 ls [])) {x0 x1 x2 x3 x4 : Int} {μ : Mem} {H : Heap} {locs : List Loc} {ls : Array Slot} (hf : f_X6_firstOnward_j67 k9 x0 x1 x2 x3 x4 μ = some (r, μ')) (t0 : isK x0 6) (hw : Hw D b μ s.heap H locs) (hl : lvh b ls 7 [(0, 2, x0), (1, 2, x1), (2, 0, x2), (3, 0, x3), (4, 0, x4)]) : W p l e (rm 2) s m args below meth c H locs 0 0 (QM below args s D b (some (.int (jI r))) μ') (F0 m 67 ls []) := by
  unfold f_X6_firstOnward_j67 at hf
  refine r_iinc C hl (kx := 4) rfl (by decide) (L' := [(4, 0, (x4 + 1)), (0, 2, x0), (1, 2, x1), (2, 0, x2), (3, 0, x3)]) rfl dX6_firstOnward_67 (fun ls hl => ?_)
  refine r_goto C (tgt := 9) (by decide) dX6_firstOnward_70 ?_
  exact h9 _ _ _ _ _ _ _ _ _ hf t0 hw (lvh_sub hl [1, 2, 3, 4, 0] rfl)
set_option maxHeartbeats 4000000 in
set_option maxRecDepth 20000 in
theorem w_X6_firstOnward_9 (C : Cx p s m args meth c D b cX6_firstOnward 7 RX6 (some .int)) {r : Int} {μ' : Mem} : ∀ (n : Nat) (x0 x1 x2 x3 x4 : Int) (μ : Mem) (H : Heap) (locs : List Loc) (ls : Array Slot), f_X6_firstOnward_w9 n x0 x1 x2 x3 x4 μ = some (r, μ') → isK x0 6 → Hw D b μ s.heap H locs → lvh b ls 7 [(0, 2, x0), (1, 2, x1), (2, 0, x2), (3, 0, x3), (4, 0, x4)] → W p l e (rm 2) s m args below meth c H locs 0 0 (QM below args s D b (some (.int (jI r))) μ') (F0 m 9 ls []) := by
  intro n
  induction n with
  | zero => intro x0 x1 x2 x3 x4 μ H locs ls hf; cases hf
  | succ n ih =>
    intro x0 x1 x2 x3 x4 μ H locs ls hf t0 hw hl
    rw [f_X6_firstOnward_w9.eq_2] at hf
    refine r_iload_n C hl (kx := 3) rfl rfl dX6_firstOnward_9 ?_
    refine r_if_le C (tgt := 73) (by decide) dX6_firstOnward_10 (fun c1 => ?_) (fun c1 => ?_)
    · have hf := ite_t c1 hf
      refine r_iconst C dX6_firstOnward_73 ?_
      exact r_iret C hw hf dX6_firstOnward_74
    · have hf := ite_f c1 hf
      refine r_iload C hl (kx := 4) rfl dX6_firstOnward_13 ?_
      refine r_aload_n C hl (kx := 1) rfl rfl dX6_firstOnward_15 ?_
      obtain ⟨g2, hf⟩ := gd_some hf
      refine gf_6_51 C hw g2 dX6_firstOnward_16 ?_
      refine r_icmp_ge C (tgt := 73) (by decide) dX6_firstOnward_19 (fun c3 => ?_) (fun c3 => ?_)
      · have hf := ite_t c3 hf
        refine r_iconst C dX6_firstOnward_73 ?_
        exact r_iret C hw hf dX6_firstOnward_74
      · have hf := ite_f c3 hf
        refine r_aload_n C hl (kx := 0) rfl rfl dX6_firstOnward_22 ?_
        refine r_aload_n C hl (kx := 1) rfl rfl dX6_firstOnward_23 ?_
        refine r_iload C hl (kx := 4) rfl dX6_firstOnward_24 ?_
        refine r_iload_n C hl (kx := 2) rfl rfl dX6_firstOnward_26 ?_
        obtain ⟨r5, μ4, e6, hf⟩ := bn_some hf
        refine r_callVv C hw (K := [(0, x4), (0, x2)]) ok3 g2 (c_X3_otherEnd l D b g2 e6) mi_X3_otherEnd in_X3_otherEnd se_X3_otherEnd kl_6_75 rfl rfl (lvh_sz hl) (by decide) (Kr := [(2, x0)]) rfl (Nat.le_of_ble_eq_true rfl) dX6_firstOnward_27 (fun H locs hw => ?_)
        obtain ⟨r8, μ7, e9, hf⟩ := bn_some hf
        refine r_callVv C hw (K := [(0, r5)]) ok6 t0 (c_X6_farFrom l D b t0 e9) mi_X6_farFrom in_X6_farFrom se_X6_farFrom kl_6_68 rfl rfl (lvh_sz hl) (by decide) (Kr := []) rfl (Nat.le_of_ble_eq_true rfl) dX6_firstOnward_30 (fun H locs hw => ?_)
        refine r_istore C hl (by decide) (L' := [(5, 0, r8), (0, 2, x0), (1, 2, x1), (2, 0, x2), (3, 0, x3), (4, 0, x4)]) rfl dX6_firstOnward_33 (fun ls hl => ?_)
        refine r_aload_n C hl (kx := 1) rfl rfl dX6_firstOnward_35 ?_
        refine r_iload C hl (kx := 5) rfl dX6_firstOnward_36 ?_
        obtain ⟨r11, μ10, e12, hf⟩ := bn_some hf
        refine r_callVv C hw (K := [(0, x4)]) ok6 t0 (c_X6_weightOf l D b t0 e12) mi_X6_weightOf in_X6_weightOf se_X6_weightOf kl_6_55 rfl rfl (lvh_sz hl) (by decide) (Kr := []) rfl (Nat.le_of_ble_eq_true rfl) dX6_firstOnward_38 (fun H locs hw => ?_)
        refine r_istore C hl (by decide) (L' := [(6, 0, r11), (5, 0, r8), (0, 2, x0), (1, 2, x1), (2, 0, x2), (3, 0, x3), (4, 0, x4)]) rfl dX6_firstOnward_41 (fun ls hl => ?_)
        refine r_iload C hl (kx := 1) rfl dX6_firstOnward_43 ?_
        refine r_iconst C dX6_firstOnward_45 ?_
        refine r_icmp_eq C (tgt := 67) (by decide) dX6_firstOnward_46 (fun c13 => ?_) (fun c13 => ?_)
        · have hf := ite_t c13 hf
          exact w_X6_firstOnward_67 C _ ih hf t0 hw (lvh_sub hl [2, 3, 4, 5, 6] rfl)
        · have hf := ite_f c13 hf
          refine r_iload C hl (kx := 0) rfl dX6_firstOnward_49 ?_
          refine r_iconst C dX6_firstOnward_51 ?_
          refine r_icmp_eq C (tgt := 67) (by decide) dX6_firstOnward_52 (fun c14 => ?_) (fun c14 => ?_)
          · have hf := ite_t c14 hf
            exact w_X6_firstOnward_67 C _ ih hf t0 hw (lvh_sub hl [2, 3, 4, 5, 6] rfl)
          · have hf := ite_f c14 hf
            refine r_iload C hl (kx := 1) rfl dX6_firstOnward_55 ?_
            refine r_iload C hl (kx := 0) rfl dX6_firstOnward_57 ?_
            refine r_iadd C dX6_firstOnward_59 ?_
            refine r_iload_n C hl (kx := 5) rfl rfl dX6_firstOnward_60 ?_
            refine r_icmp_ne C (tgt := 67) (by decide) dX6_firstOnward_61 (fun c15 => ?_) (fun c15 => ?_)
            · have hf := ite_f c15 hf
              exact w_X6_firstOnward_67 C _ ih hf t0 hw (lvh_sub hl [2, 3, 4, 5, 6] rfl)
            · have hf := ite_t c15 hf
              refine r_iload C hl (kx := 6) rfl dX6_firstOnward_64 ?_
              exact r_iret C hw hf dX6_firstOnward_66
set_option maxHeartbeats 4000000 in
set_option maxRecDepth 20000 in
theorem w_X6_firstOnward_0 (C : Cx p s m args meth c D b cX6_firstOnward 7 RX6 (some .int)) {r : Int} {μ' : Mem} {x0 x1 x2 : Int} {μ : Mem} {H : Heap} {locs : List Loc} {ls : Array Slot} (hf : f_X6_firstOnward x0 x1 x2 μ = some (r, μ')) (t0 : isK x0 6) (hw : Hw D b μ s.heap H locs) (hl : lvh b ls 7 [(0, 2, x0), (1, 2, x1), (2, 0, x2)]) : W p l e (rm 2) s m args below meth c H locs 0 0 (QM below args s D b (some (.int (jI r))) μ') (F0 m 0 ls []) := by
  unfold f_X6_firstOnward at hf
  refine r_aload_n C hl (kx := 0) rfl rfl dX6_firstOnward_0 ?_
  refine r_iload_n C hl (kx := 2) rfl rfl dX6_firstOnward_1 ?_
  obtain ⟨r2, μ1, e3, hf⟩ := bn_some hf
  refine r_callVv C hw (K := [(0, x2)]) ok6 t0 (c_X6_farFrom l D b t0 e3) mi_X6_farFrom in_X6_farFrom se_X6_farFrom kl_6_68 rfl rfl (lvh_sz hl) (by decide) (Kr := []) rfl (Nat.le_of_ble_eq_true rfl) dX6_firstOnward_2 (fun H locs hw => ?_)
  refine r_istore_n C hl (by decide) (L' := [(3, 0, r2), (0, 2, x0), (1, 2, x1), (2, 0, x2)]) rfl rfl dX6_firstOnward_5 (fun ls hl => ?_)
  refine r_iconst C dX6_firstOnward_6 ?_
  refine r_istore C hl (by decide) (L' := [(4, 0, 0), (3, 0, r2), (0, 2, x0), (1, 2, x1), (2, 0, x2)]) rfl dX6_firstOnward_7 (fun ls hl => ?_)
  exact w_X6_firstOnward_9 C FU _ _ _ _ _ _ _ _ _ hf t0 hw (lvh_sub hl [2, 3, 4, 1, 0] rfl)
theorem c_X6_firstOnward (l : Launch) (D : Ds) (b : Nat) {x0 x1 x2 : Int} {μ μ' : Mem} {r : Int} (t0 : isK x0 6) (hf : f_X6_firstOnward x0 x1 x2 μ = some (r, μ')) : Ctr l D b yX6_firstOnward cX6_firstOnward 7 (some .int) 2 [(2, x0), (2, x1), (0, x2)] μ (some (.int (jI r))) μ' := by
  refine Ctr.of (by decide +kernel) (Nat.le_of_ble_eq_true rfl) ?_
  intro p e s m below meth c C hw ls hl
  exact w_X6_firstOnward_0 C hf t0 hw hl
set_option maxHeartbeats 4000000 in
set_option maxRecDepth 20000 in
theorem w_X6_laneOnWay_6 (C : Cx p s m args meth c D b cX6_laneOnWay 7 RX6 (some .int)) {r : Int} {μ' : Mem} : ∀ (n : Nat) (x0 x1 x3 x4 x5 : Int) (μ : Mem) (H : Heap) (locs : List Loc) (ls : Array Slot), f_X6_laneOnWay_w6 n x0 x1 x3 x4 x5 μ = some (r, μ') → isK x0 6 → Hw D b μ s.heap H locs → lvh b ls 7 [(0, 2, x0), (1, 2, x1), (3, 0, x3), (4, 0, x4), (5, 0, x5)] → W p l e (rm 3) s m args below meth c H locs 0 0 (QM below args s D b (some (.int (jI r))) μ') (F0 m 6 ls []) := by
  intro n
  induction n with
  | zero => intro x0 x1 x3 x4 x5 μ H locs ls hf; cases hf
  | succ n ih =>
    intro x0 x1 x3 x4 x5 μ H locs ls hf t0 hw hl
    rw [f_X6_laneOnWay_w6.eq_2] at hf
    refine r_iload C hl (kx := 4) rfl dX6_laneOnWay_6 ?_
    refine r_bipush C (by decide) dX6_laneOnWay_8 ?_
    refine r_icmp_ge C (tgt := 53) (by decide) dX6_laneOnWay_10 (fun c1 => ?_) (fun c1 => ?_)
    · have hf := ite_t c1 hf
      refine r_iconst C dX6_laneOnWay_53 ?_
      exact r_iret C hw hf dX6_laneOnWay_54
    · have hf := ite_f c1 hf
      refine r_aload_n C hl (kx := 0) rfl rfl dX6_laneOnWay_13 ?_
      refine r_aload_n C hl (kx := 1) rfl rfl dX6_laneOnWay_14 ?_
      refine r_iload C hl (kx := 3) rfl dX6_laneOnWay_15 ?_
      obtain ⟨r3, μ2, e4, hf⟩ := bn_some hf
      refine r_callVv C hw (K := [(2, x1), (0, x4)]) ok6 t0 (c_X6_firstOnward l D b t0 e4) mi_X6_firstOnward in_X6_firstOnward se_X6_firstOnward kl_6_71 rfl rfl (lvh_sz hl) (by decide) (Kr := []) rfl (Nat.le_of_ble_eq_true rfl) dX6_laneOnWay_17 (fun H locs hw => ?_)
      refine r_istore C hl (by decide) (L' := [(6, 0, r3), (0, 2, x0), (1, 2, x1), (3, 0, x3), (4, 0, x4), (5, 0, x5)]) rfl dX6_laneOnWay_20 (fun ls hl => ?_)
      refine r_iload C hl (kx := 0) rfl dX6_laneOnWay_22 ?_
      refine r_iconst C dX6_laneOnWay_24 ?_
      refine r_icmp_eq C (tgt := 34) (by decide) dX6_laneOnWay_25 (fun c5 => ?_) (fun c5 => ?_)
      · have hf := ite_t c5 hf
        refine r_iload C hl (kx := 0) rfl dX6_laneOnWay_34 ?_
        exact r_iret C hw hf dX6_laneOnWay_36
      · have hf := ite_f c5 hf
        refine r_iload C hl (kx := 5) rfl dX6_laneOnWay_28 ?_
        refine r_iload_n C hl (kx := 3) rfl rfl dX6_laneOnWay_30 ?_
        refine r_icmp_ne C (tgt := 37) (by decide) dX6_laneOnWay_31 (fun c6 => ?_) (fun c6 => ?_)
        · have hf := ite_f c6 hf
          refine r_aload_n C hl (kx := 2) rfl rfl dX6_laneOnWay_37 ?_
          refine r_iload C hl (kx := 0) rfl dX6_laneOnWay_38 ?_
          refine r_iload C hl (kx := 4) rfl dX6_laneOnWay_40 ?_
          obtain ⟨g7, hf⟩ := gd_some hf
          obtain ⟨r9, μ8, e10, hf⟩ := bn_some hf
          refine r_callVv C hw (K := [(0, r3), (0, x4)]) ok3 g7 (c_X3_otherEnd l D b g7 e10) mi_X3_otherEnd in_X3_otherEnd se_X3_otherEnd kl_6_75 rfl rfl (lvh_sz hl) (by decide) (Kr := []) rfl (Nat.le_of_ble_eq_true rfl) dX6_laneOnWay_42 (fun H locs hw => ?_)
          refine r_istore C hl (by decide) (L' := [(4, 0, r9), (6, 0, r3), (0, 2, x0), (1, 2, x1), (3, 0, x3), (5, 0, x5)]) rfl dX6_laneOnWay_45 (fun ls hl => ?_)
          refine r_iinc C hl (kx := 5) rfl (by decide) (L' := [(5, 0, (x5 + 1)), (4, 0, r9), (6, 0, r3), (0, 2, x0), (1, 2, x1), (3, 0, x3)]) rfl dX6_laneOnWay_47 (fun ls hl => ?_)
          refine r_goto C (tgt := 6) (by decide) dX6_laneOnWay_50 ?_
          exact ih _ _ _ _ _ _ _ _ _ hf t0 hw (lvh_sub hl [3, 4, 5, 1, 0] rfl)
        · have hf := ite_t c6 hf
          refine r_iload C hl (kx := 0) rfl dX6_laneOnWay_34 ?_
          exact r_iret C hw hf dX6_laneOnWay_36
set_option maxHeartbeats 4000000 in
set_option maxRecDepth 20000 in
theorem w_X6_laneOnWay_0 (C : Cx p s m args meth c D b cX6_laneOnWay 7 RX6 (some .int)) {r : Int} {μ' : Mem} {x0 x1 x2 x3 : Int} {μ : Mem} {H : Heap} {locs : List Loc} {ls : Array Slot} (hf : f_X6_laneOnWay x0 x1 x2 x3 μ = some (r, μ')) (t0 : isK x0 6) (hw : Hw D b μ s.heap H locs) (hl : lvh b ls 7 [(0, 2, x0), (1, 2, x1), (2, 0, x2), (3, 0, x3)]) : W p l e (rm 3) s m args below meth c H locs 0 0 (QM below args s D b (some (.int (jI r))) μ') (F0 m 0 ls []) := by
  unfold f_X6_laneOnWay at hf
  refine r_iload_n C hl (kx := 2) rfl rfl dX6_laneOnWay_0 ?_
  refine r_istore C hl (by decide) (L' := [(4, 0, x2), (0, 2, x0), (1, 2, x1), (2, 0, x2), (3, 0, x3)]) rfl dX6_laneOnWay_1 (fun ls hl => ?_)
  refine r_iconst C dX6_laneOnWay_3 ?_
  refine r_istore C hl (by decide) (L' := [(5, 0, 0), (4, 0, x2), (0, 2, x0), (1, 2, x1), (2, 0, x2), (3, 0, x3)]) rfl dX6_laneOnWay_4 (fun ls hl => ?_)
  exact w_X6_laneOnWay_6 C FU _ _ _ _ _ _ _ _ _ hf t0 hw (lvh_sub hl [2, 3, 5, 1, 0] rfl)
theorem c_X6_laneOnWay (l : Launch) (D : Ds) (b : Nat) {x0 x1 x2 x3 : Int} {μ μ' : Mem} {r : Int} (t0 : isK x0 6) (hf : f_X6_laneOnWay x0 x1 x2 x3 μ = some (r, μ')) : Ctr l D b yX6_laneOnWay cX6_laneOnWay 7 (some .int) 3 [(2, x0), (2, x1), (0, x2), (0, x3)] μ (some (.int (jI r))) μ' := by
  refine Ctr.of (by decide +kernel) (Nat.le_of_ble_eq_true rfl) ?_
  intro p e s m below meth c C hw ls hl
  exact w_X6_laneOnWay_0 C hf t0 hw hl
set_option maxHeartbeats 4000000 in
set_option maxRecDepth 20000 in
theorem w_X6_weightOfAll_44 (C : Cx p s m args meth c D b cX6_weightOfAll 6 RX6 (some .int)) {r : Int} {μ' : Mem} (k5 : Int → Int → Int → Int → Int → Mem → Option (Int × Mem)) (h5 : ∀ (x0 x1 x2 x3 x4 : Int) (μ : Mem) (H : Heap) (locs : List Loc) (ls : Array Slot), k5 x0 x1 x2 x3 x4 μ = some (r, μ') → isK x0 6 → Hw D b μ s.heap H locs → lvh b ls 6 [(0, 2, x0), (1, 2, x1), (2, 0, x2), (3, 0, x3), (4, 0, x4)] → W p l e (rm 1) s m args below meth c H locs 0 0 (QM below args s D b (some (.int (jI r))) μ') (F0 m 5 ls [])) {x0 x1 x2 x3 x4 : Int} {μ : Mem} {H : Heap} {locs : List Loc} {ls : Array Slot} (hf : f_X6_weightOfAll_j44 k5 x0 x1 x2 x3 x4 μ = some (r, μ')) (t0 : isK x0 6) (hw : Hw D b μ s.heap H locs) (hl : lvh b ls 6 [(0, 2, x0), (1, 2, x1), (2, 0, x2), (3, 0, x3), (4, 0, x4)]) : W p l e (rm 1) s m args below meth c H locs 0 0 (QM below args s D b (some (.int (jI r))) μ') (F0 m 44 ls []) := by
  unfold f_X6_weightOfAll_j44 at hf
  refine r_iinc C hl (kx := 4) rfl (by decide) (L' := [(4, 0, (x4 + 1)), (0, 2, x0), (1, 2, x1), (2, 0, x2), (3, 0, x3)]) rfl dX6_weightOfAll_44 (fun ls hl => ?_)
  refine r_goto C (tgt := 5) (by decide) dX6_weightOfAll_47 ?_
  exact h5 _ _ _ _ _ _ _ _ _ hf t0 hw (lvh_sub hl [1, 2, 3, 4, 0] rfl)
set_option maxHeartbeats 4000000 in
set_option maxRecDepth 20000 in
theorem w_X6_weightOfAll_5 (C : Cx p s m args meth c D b cX6_weightOfAll 6 RX6 (some .int)) {r : Int} {μ' : Mem} : ∀ (n : Nat) (x0 x1 x2 x3 x4 : Int) (μ : Mem) (H : Heap) (locs : List Loc) (ls : Array Slot), f_X6_weightOfAll_w5 n x0 x1 x2 x3 x4 μ = some (r, μ') → isK x0 6 → Hw D b μ s.heap H locs → lvh b ls 6 [(0, 2, x0), (1, 2, x1), (2, 0, x2), (3, 0, x3), (4, 0, x4)] → W p l e (rm 1) s m args below meth c H locs 0 0 (QM below args s D b (some (.int (jI r))) μ') (F0 m 5 ls []) := by
  intro n
  induction n with
  | zero => intro x0 x1 x2 x3 x4 μ H locs ls hf; cases hf
  | succ n ih =>
    intro x0 x1 x2 x3 x4 μ H locs ls hf t0 hw hl
    rw [f_X6_weightOfAll_w5.eq_2] at hf
    refine r_iload C hl (kx := 4) rfl dX6_weightOfAll_5 ?_
    refine r_aload_n C hl (kx := 1) rfl rfl dX6_weightOfAll_7 ?_
    obtain ⟨g1, hf⟩ := gd_some hf
    refine gf_6_51 C hw g1 dX6_weightOfAll_8 ?_
    refine r_icmp_ge C (tgt := 50) (by decide) dX6_weightOfAll_11 (fun c2 => ?_) (fun c2 => ?_)
    · have hf := ite_t c2 hf
      refine r_iload_n C hl (kx := 3) rfl rfl dX6_weightOfAll_50 ?_
      exact r_iret C hw hf dX6_weightOfAll_51
    · have hf := ite_f c2 hf
      refine r_iload_n C hl (kx := 2) rfl rfl dX6_weightOfAll_14 ?_
      refine r_iload C hl (kx := 4) rfl dX6_weightOfAll_15 ?_
      refine r_ishr C dX6_weightOfAll_17 ?_
      refine r_iconst C dX6_weightOfAll_18 ?_
      refine r_iand C dX6_weightOfAll_19 ?_
      refine r_if_eq C (tgt := 44) (by decide) dX6_weightOfAll_20 (fun c3 => ?_) (fun c3 => ?_)
      · have hf := ite_t c3 hf
        exact w_X6_weightOfAll_44 C _ ih hf t0 hw (lvh_sub hl [0, 1, 2, 3, 4] rfl)
      · have hf := ite_f c3 hf
        refine r_aload_n C hl (kx := 0) rfl rfl dX6_weightOfAll_23 ?_
        refine r_iload C hl (kx := 4) rfl dX6_weightOfAll_24 ?_
        obtain ⟨r5, μ4, e6, hf⟩ := bn_some hf
        refine r_callVv C hw (K := [(0, x4)]) ok6 t0 (c_X6_weightOf l D b t0 e6) mi_X6_weightOf in_X6_weightOf se_X6_weightOf kl_6_55 rfl rfl (lvh_sz hl) (by decide) (Kr := []) rfl (Nat.le_of_ble_eq_true rfl) dX6_weightOfAll_26 (fun H locs hw => ?_)
        refine r_istore C hl (by decide) (L' := [(5, 0, r5), (0, 2, x0), (1, 2, x1), (2, 0, x2), (3, 0, x3), (4, 0, x4)]) rfl dX6_weightOfAll_29 (fun ls hl => ?_)
        refine r_iload C hl (kx := 0) rfl dX6_weightOfAll_31 ?_
        refine r_iconst C dX6_weightOfAll_33 ?_
        refine r_icmp_ne C (tgt := 39) (by decide) dX6_weightOfAll_34 (fun c7 => ?_) (fun c7 => ?_)
        · have hf := ite_f c7 hf
          refine r_iload_n C hl (kx := 4) rfl rfl dX6_weightOfAll_39 ?_
          refine r_iload C hl (kx := 0) rfl dX6_weightOfAll_40 ?_
          refine r_iadd C dX6_weightOfAll_42 ?_
          obtain ⟨v8, e9, hf⟩ := nm_some hf
          refine top_i e9 ?_
          refine r_istore_n C hl (by decide) (L' := [(3, 0, v8), (5, 0, r5), (0, 2, x0), (1, 2, x1), (2, 0, x2), (4, 0, x4)]) rfl rfl dX6_weightOfAll_43 (fun ls hl => ?_)
          exact w_X6_weightOfAll_44 C _ ih hf t0 hw (lvh_sub hl [2, 3, 4, 0, 5] rfl)
        · have hf := ite_t c7 hf
          refine r_iconst C dX6_weightOfAll_37 ?_
          exact r_iret C hw hf dX6_weightOfAll_38
set_option maxHeartbeats 4000000 in
set_option maxRecDepth 20000 in
theorem w_X6_weightOfAll_0 (C : Cx p s m args meth c D b cX6_weightOfAll 6 RX6 (some .int)) {r : Int} {μ' : Mem} {x0 x1 x2 : Int} {μ : Mem} {H : Heap} {locs : List Loc} {ls : Array Slot} (hf : f_X6_weightOfAll x0 x1 x2 μ = some (r, μ')) (t0 : isK x0 6) (hw : Hw D b μ s.heap H locs) (hl : lvh b ls 6 [(0, 2, x0), (1, 2, x1), (2, 0, x2)]) : W p l e (rm 1) s m args below meth c H locs 0 0 (QM below args s D b (some (.int (jI r))) μ') (F0 m 0 ls []) := by
  unfold f_X6_weightOfAll at hf
  refine r_iconst C dX6_weightOfAll_0 ?_
  refine r_istore_n C hl (by decide) (L' := [(3, 0, 0), (0, 2, x0), (1, 2, x1), (2, 0, x2)]) rfl rfl dX6_weightOfAll_1 (fun ls hl => ?_)
  refine r_iconst C dX6_weightOfAll_2 ?_
  refine r_istore C hl (by decide) (L' := [(4, 0, 0), (3, 0, 0), (0, 2, x0), (1, 2, x1), (2, 0, x2)]) rfl dX6_weightOfAll_3 (fun ls hl => ?_)
  exact w_X6_weightOfAll_5 C FU _ _ _ _ _ _ _ _ _ hf t0 hw (lvh_sub hl [2, 3, 4, 1, 0] rfl)
theorem c_X6_weightOfAll (l : Launch) (D : Ds) (b : Nat) {x0 x1 x2 : Int} {μ μ' : Mem} {r : Int} (t0 : isK x0 6) (hf : f_X6_weightOfAll x0 x1 x2 μ = some (r, μ')) : Ctr l D b yX6_weightOfAll cX6_weightOfAll 6 (some .int) 1 [(2, x0), (2, x1), (0, x2)] μ (some (.int (jI r))) μ' := by
  refine Ctr.of (by decide +kernel) (Nat.le_of_ble_eq_true rfl) ?_
  intro p e s m below meth c C hw ls hl
  exact w_X6_weightOfAll_0 C hf t0 hw hl
set_option maxHeartbeats 4000000 in
set_option maxRecDepth 20000 in
theorem w_X6_leastJoining_86 (C : Cx p s m args meth c D b cX6_leastJoining 8 RX6 (some .int)) {r : Int} {μ' : Mem} (k17 : Int → Int → Int → Int → Int → Int → Mem → Option (Int × Mem)) (h17 : ∀ (x0 x1 x2 x3 x4 x5 : Int) (μ : Mem) (H : Heap) (locs : List Loc) (ls : Array Slot), k17 x0 x1 x2 x3 x4 x5 μ = some (r, μ') → isK x0 6 → Hw D b μ s.heap H locs → lvh b ls 8 [(0, 2, x0), (1, 2, x1), (2, 0, x2), (3, 0, x3), (4, 0, x4), (5, 0, x5)] → W p l e (rm 2) s m args below meth c H locs 0 0 (QM below args s D b (some (.int (jI r))) μ') (F0 m 17 ls [])) {x0 x1 x2 x3 x4 x5 : Int} {μ : Mem} {H : Heap} {locs : List Loc} {ls : Array Slot} (hf : f_X6_leastJoining_j86 k17 x0 x1 x2 x3 x4 x5 μ = some (r, μ')) (t0 : isK x0 6) (hw : Hw D b μ s.heap H locs) (hl : lvh b ls 8 [(0, 2, x0), (1, 2, x1), (2, 0, x2), (3, 0, x3), (4, 0, x4), (5, 0, x5)]) : W p l e (rm 2) s m args below meth c H locs 0 0 (QM below args s D b (some (.int (jI r))) μ') (F0 m 86 ls []) := by
  unfold f_X6_leastJoining_j86 at hf
  refine r_iinc C hl (kx := 5) rfl (by decide) (L' := [(5, 0, (x5 + 1)), (0, 2, x0), (1, 2, x1), (2, 0, x2), (3, 0, x3), (4, 0, x4)]) rfl dX6_leastJoining_86 (fun ls hl => ?_)
  refine r_goto C (tgt := 17) (by decide) dX6_leastJoining_89 ?_
  exact h17 _ _ _ _ _ _ _ _ _ _ hf t0 hw (lvh_sub hl [1, 2, 3, 4, 5, 0] rfl)
set_option maxHeartbeats 4000000 in
set_option maxRecDepth 20000 in
theorem w_X6_leastJoining_61 (C : Cx p s m args meth c D b cX6_leastJoining 8 RX6 (some .int)) {r : Int} {μ' : Mem} (k17 : Int → Int → Int → Int → Int → Int → Mem → Option (Int × Mem)) (h17 : ∀ (x0 x1 x2 x3 x4 x5 : Int) (μ : Mem) (H : Heap) (locs : List Loc) (ls : Array Slot), k17 x0 x1 x2 x3 x4 x5 μ = some (r, μ') → isK x0 6 → Hw D b μ s.heap H locs → lvh b ls 8 [(0, 2, x0), (1, 2, x1), (2, 0, x2), (3, 0, x3), (4, 0, x4), (5, 0, x5)] → W p l e (rm 2) s m args below meth c H locs 0 0 (QM below args s D b (some (.int (jI r))) μ') (F0 m 17 ls [])) {x0 x1 x2 x3 x4 x5 x6 s0 : Int} {μ : Mem} {H : Heap} {locs : List Loc} {ls : Array Slot} (hf : f_X6_leastJoining_j61 k17 x0 x1 x2 x3 x4 x5 x6 s0 μ = some (r, μ')) (t0 : isK x0 6) (hw : Hw D b μ s.heap H locs) (hl : lvh b ls 8 [(0, 2, x0), (1, 2, x1), (2, 0, x2), (3, 0, x3), (4, 0, x4), (5, 0, x5), (6, 0, x6)]) : W p l e (rm 2) s m args below meth c H locs 0 0 (QM below args s D b (some (.int (jI r))) μ') (F0 m 61 ls [.int (jI s0)]) := by
  unfold f_X6_leastJoining_j61 at hf
  refine r_istore C hl (by decide) (L' := [(7, 0, s0), (0, 2, x0), (1, 2, x1), (2, 0, x2), (3, 0, x3), (4, 0, x4), (5, 0, x5), (6, 0, x6)]) rfl dX6_leastJoining_61 (fun ls hl => ?_)
  refine r_iload C hl (kx := 0) rfl dX6_leastJoining_63 ?_
  refine r_if_eq C (tgt := 86) (by decide) dX6_leastJoining_65 (fun c1 => ?_) (fun c1 => ?_)
  · have hf := ite_t c1 hf
    exact w_X6_leastJoining_86 C _ h17 hf t0 hw (lvh_sub hl [1, 2, 3, 4, 5, 6] rfl)
  · have hf := ite_f c1 hf
    refine r_aload_n C hl (kx := 2) rfl rfl dX6_leastJoining_68 ?_
    refine r_iconst C dX6_leastJoining_69 ?_
    refine r_iload C hl (kx := 6) rfl dX6_leastJoining_70 ?_
    obtain ⟨g2, hf⟩ := gd_some hf
    obtain ⟨r4, μ3, e5, hf⟩ := bn_some hf
    refine r_callVv C hw (K := [(0, 0), (0, x5)]) ok3 g2 (c_X3_comingFrom l D b g2 e5) mi_X3_comingFrom in_X3_comingFrom se_X3_comingFrom kl_6_85 rfl rfl (lvh_sz hl) (by decide) (Kr := []) rfl (Nat.le_of_ble_eq_true rfl) dX6_leastJoining_72 (fun H locs hw => ?_)
    refine r_iload_n C hl (kx := 3) rfl rfl dX6_leastJoining_75 ?_
    refine r_icmp_ne C (tgt := 86) (by decide) dX6_leastJoining_76 (fun c6 => ?_) (fun c6 => ?_)
    · have hf := ite_f c6 hf
      exact w_X6_leastJoining_86 C _ h17 hf t0 hw (lvh_sub hl [1, 2, 3, 4, 5, 6] rfl)
    · have hf := ite_t c6 hf
      refine r_iload C hl (kx := 6) rfl dX6_leastJoining_79 ?_
      refine r_istore_n C hl (by decide) (L' := [(3, 0, x5), (7, 0, s0), (0, 2, x0), (1, 2, x1), (2, 0, x2), (4, 0, x4), (5, 0, x5), (6, 0, x6)]) rfl rfl dX6_leastJoining_81 (fun ls hl => ?_)
      refine r_iload C hl (kx := 7) rfl dX6_leastJoining_82 ?_
      refine r_istore C hl (by decide) (L' := [(4, 0, x6), (3, 0, x5), (7, 0, s0), (0, 2, x0), (1, 2, x1), (2, 0, x2), (5, 0, x5), (6, 0, x6)]) rfl dX6_leastJoining_84 (fun ls hl => ?_)
      exact w_X6_leastJoining_86 C _ h17 hf t0 hw (lvh_sub hl [3, 4, 5, 1, 0, 6] rfl)
set_option maxHeartbeats 4000000 in
set_option maxRecDepth 20000 in
theorem w_X6_leastJoining_60 (C : Cx p s m args meth c D b cX6_leastJoining 8 RX6 (some .int)) {r : Int} {μ' : Mem} (k17 : Int → Int → Int → Int → Int → Int → Mem → Option (Int × Mem)) (h17 : ∀ (x0 x1 x2 x3 x4 x5 : Int) (μ : Mem) (H : Heap) (locs : List Loc) (ls : Array Slot), k17 x0 x1 x2 x3 x4 x5 μ = some (r, μ') → isK x0 6 → Hw D b μ s.heap H locs → lvh b ls 8 [(0, 2, x0), (1, 2, x1), (2, 0, x2), (3, 0, x3), (4, 0, x4), (5, 0, x5)] → W p l e (rm 2) s m args below meth c H locs 0 0 (QM below args s D b (some (.int (jI r))) μ') (F0 m 17 ls [])) {x0 x1 x2 x3 x4 x5 x6 : Int} {μ : Mem} {H : Heap} {locs : List Loc} {ls : Array Slot} (hf : f_X6_leastJoining_j60 k17 x0 x1 x2 x3 x4 x5 x6 μ = some (r, μ')) (t0 : isK x0 6) (hw : Hw D b μ s.heap H locs) (hl : lvh b ls 8 [(0, 2, x0), (1, 2, x1), (2, 0, x2), (3, 0, x3), (4, 0, x4), (5, 0, x5), (6, 0, x6)]) : W p l e (rm 2) s m args below meth c H locs 0 0 (QM below args s D b (some (.int (jI r))) μ') (F0 m 60 ls []) := by
  unfold f_X6_leastJoining_j60 at hf
  refine r_iconst C dX6_leastJoining_60 ?_
  exact w_X6_leastJoining_61 C _ h17 hf t0 hw (lvh_sub hl [0, 1, 2, 3, 4, 5, 6] rfl)
set_option maxHeartbeats 4000000 in
set_option maxRecDepth 20000 in
theorem w_X6_leastJoining_56 (C : Cx p s m args meth c D b cX6_leastJoining 8 RX6 (some .int)) {r : Int} {μ' : Mem} (k17 : Int → Int → Int → Int → Int → Int → Mem → Option (Int × Mem)) (h17 : ∀ (x0 x1 x2 x3 x4 x5 : Int) (μ : Mem) (H : Heap) (locs : List Loc) (ls : Array Slot), k17 x0 x1 x2 x3 x4 x5 μ = some (r, μ') → isK x0 6 → Hw D b μ s.heap H locs → lvh b ls 8 [(0, 2, x0), (1, 2, x1), (2, 0, x2), (3, 0, x3), (4, 0, x4), (5, 0, x5)] → W p l e (rm 2) s m args below meth c H locs 0 0 (QM below args s D b (some (.int (jI r))) μ') (F0 m 17 ls [])) {x0 x1 x2 x3 x4 x5 x6 : Int} {μ : Mem} {H : Heap} {locs : List Loc} {ls : Array Slot} (hf : f_X6_leastJoining_j56 k17 x0 x1 x2 x3 x4 x5 x6 μ = some (r, μ')) (t0 : isK x0 6) (hw : Hw D b μ s.heap H locs) (hl : lvh b ls 8 [(0, 2, x0), (1, 2, x1), (2, 0, x2), (3, 0, x3), (4, 0, x4), (5, 0, x5), (6, 0, x6)]) : W p l e (rm 2) s m args below meth c H locs 0 0 (QM below args s D b (some (.int (jI r))) μ') (F0 m 56 ls []) := by
  unfold f_X6_leastJoining_j56 at hf
  refine r_iconst C dX6_leastJoining_56 ?_
  refine r_goto C (tgt := 61) (by decide) dX6_leastJoining_57 ?_
  exact w_X6_leastJoining_61 C _ h17 hf t0 hw (lvh_sub hl [0, 1, 2, 3, 4, 5, 6] rfl)
set_option maxHeartbeats 4000000 in
set_option maxRecDepth 20000 in
theorem w_X6_leastJoining_17 (C : Cx p s m args meth c D b cX6_leastJoining 8 RX6 (some .int)) {r : Int} {μ' : Mem} : ∀ (n : Nat) (x0 x1 x2 x3 x4 x5 : Int) (μ : Mem) (H : Heap) (locs : List Loc) (ls : Array Slot), f_X6_leastJoining_w17 n x0 x1 x2 x3 x4 x5 μ = some (r, μ') → isK x0 6 → Hw D b μ s.heap H locs → lvh b ls 8 [(0, 2, x0), (1, 2, x1), (2, 0, x2), (3, 0, x3), (4, 0, x4), (5, 0, x5)] → W p l e (rm 2) s m args below meth c H locs 0 0 (QM below args s D b (some (.int (jI r))) μ') (F0 m 17 ls []) := by
  intro n
  induction n with
  | zero => intro x0 x1 x2 x3 x4 x5 μ H locs ls hf; cases hf
  | succ n ih =>
    intro x0 x1 x2 x3 x4 x5 μ H locs ls hf t0 hw hl
    rw [f_X6_leastJoining_w17.eq_2] at hf
    refine r_iload C hl (kx := 5) rfl dX6_leastJoining_17 ?_
    refine r_iconst C dX6_leastJoining_19 ?_
    refine r_aload_n C hl (kx := 1) rfl rfl dX6_leastJoining_20 ?_
    obtain ⟨g1, hf⟩ := gd_some hf
    refine gf_6_51 C hw g1 dX6_leastJoining_21 ?_
    refine r_ishl C dX6_leastJoining_24 ?_
    refine r_icmp_ge C (tgt := 92) (by decide) dX6_leastJoining_25 (fun c2 => ?_) (fun c2 => ?_)
    · have hf := ite_t c2 hf
      refine r_iload_n C hl (kx := 3) rfl rfl dX6_leastJoining_92 ?_
      exact r_iret C hw hf dX6_leastJoining_93
    · have hf := ite_f c2 hf
      refine r_aload_n C hl (kx := 0) rfl rfl dX6_leastJoining_28 ?_
      refine r_aload_n C hl (kx := 1) rfl rfl dX6_leastJoining_29 ?_
      refine r_iload C hl (kx := 5) rfl dX6_leastJoining_30 ?_
      obtain ⟨r4, μ3, e5, hf⟩ := bn_some hf
      refine r_callVv C hw (K := [(2, x1), (0, x5)]) ok6 t0 (c_X6_weightOfAll l D b t0 e5) mi_X6_weightOfAll in_X6_weightOfAll se_X6_weightOfAll kl_6_82 rfl rfl (lvh_sz hl) (by decide) (Kr := []) rfl (Nat.le_of_ble_eq_true rfl) dX6_leastJoining_32 (fun H locs hw => ?_)
      refine r_istore C hl (by decide) (L' := [(6, 0, r4), (0, 2, x0), (1, 2, x1), (2, 0, x2), (3, 0, x3), (4, 0, x4), (5, 0, x5)]) rfl dX6_leastJoining_35 (fun ls hl => ?_)
      refine r_iload C hl (kx := 0) rfl dX6_leastJoining_37 ?_
      refine r_iconst C dX6_leastJoining_39 ?_
      refine r_icmp_eq C (tgt := 60) (by decide) dX6_leastJoining_40 (fun c6 => ?_) (fun c6 => ?_)
      · have hf := ite_t c6 hf
        exact w_X6_leastJoining_60 C _ ih hf t0 hw (lvh_sub hl [1, 2, 3, 4, 5, 6, 0] rfl)
      · have hf := ite_f c6 hf
        refine r_iload C hl (kx := 5) rfl dX6_leastJoining_43 ?_
        refine r_iconst C dX6_leastJoining_45 ?_
        refine r_icmp_eq C (tgt := 56) (by decide) dX6_leastJoining_46 (fun c7 => ?_) (fun c7 => ?_)
        · have hf := ite_t c7 hf
          exact w_X6_leastJoining_56 C _ ih hf t0 hw (lvh_sub hl [1, 2, 3, 4, 5, 6, 0] rfl)
        · have hf := ite_f c7 hf
          refine r_iload C hl (kx := 0) rfl dX6_leastJoining_49 ?_
          refine r_iload C hl (kx := 5) rfl dX6_leastJoining_51 ?_
          refine r_icmp_ge C (tgt := 60) (by decide) dX6_leastJoining_53 (fun c8 => ?_) (fun c8 => ?_)
          · have hf := ite_t c8 hf
            exact w_X6_leastJoining_60 C _ ih hf t0 hw (lvh_sub hl [1, 2, 3, 4, 5, 6, 0] rfl)
          · have hf := ite_f c8 hf
            exact w_X6_leastJoining_56 C _ ih hf t0 hw (lvh_sub hl [1, 2, 3, 4, 5, 6, 0] rfl)
set_option maxHeartbeats 4000000 in
set_option maxRecDepth 20000 in
theorem w_X6_leastJoining_0 (C : Cx p s m args meth c D b cX6_leastJoining 8 RX6 (some .int)) {r : Int} {μ' : Mem} {x0 x1 : Int} {μ : Mem} {H : Heap} {locs : List Loc} {ls : Array Slot} (hf : f_X6_leastJoining x0 x1 μ = some (r, μ')) (t0 : isK x0 6) (hw : Hw D b μ s.heap H locs) (hl : lvh b ls 8 [(0, 2, x0), (1, 2, x1)]) : W p l e (rm 2) s m args below meth c H locs 0 0 (QM below args s D b (some (.int (jI r))) μ') (F0 m 0 ls []) := by
  unfold f_X6_leastJoining at hf
  refine r_iconst C dX6_leastJoining_0 ?_
  refine r_aload_n C hl (kx := 1) rfl rfl dX6_leastJoining_1 ?_
  obtain ⟨g1, hf⟩ := gd_some hf
  refine gf_6_79 C hw g1 dX6_leastJoining_2 ?_
  refine r_ishl C dX6_leastJoining_5 ?_
  refine r_iconst C dX6_leastJoining_6 ?_
  refine r_isub C dX6_leastJoining_7 ?_
  obtain ⟨v2, e3, hf⟩ := nm_some hf
  refine top_i e3 ?_
  refine r_istore_n C hl (by decide) (L' := [(2, 0, v2), (0, 2, x0), (1, 2, x1)]) rfl rfl dX6_leastJoining_8 (fun ls hl => ?_)
  refine r_iconst C dX6_leastJoining_9 ?_
  refine r_istore_n C hl (by decide) (L' := [(3, 0, (-1)), (2, 0, v2), (0, 2, x0), (1, 2, x1)]) rfl rfl dX6_leastJoining_10 (fun ls hl => ?_)
  refine r_iconst C dX6_leastJoining_11 ?_
  refine r_istore C hl (by decide) (L' := [(4, 0, (-1)), (3, 0, (-1)), (2, 0, v2), (0, 2, x0), (1, 2, x1)]) rfl dX6_leastJoining_12 (fun ls hl => ?_)
  refine r_iconst C dX6_leastJoining_14 ?_
  refine r_istore C hl (by decide) (L' := [(5, 0, 0), (4, 0, (-1)), (3, 0, (-1)), (2, 0, v2), (0, 2, x0), (1, 2, x1)]) rfl dX6_leastJoining_15 (fun ls hl => ?_)
  exact w_X6_leastJoining_17 C FU _ _ _ _ _ _ _ _ _ _ hf t0 hw (lvh_sub hl [4, 5, 3, 2, 1, 0] rfl)
theorem c_X6_leastJoining (l : Launch) (D : Ds) (b : Nat) {x0 x1 : Int} {μ μ' : Mem} {r : Int} (t0 : isK x0 6) (hf : f_X6_leastJoining x0 x1 μ = some (r, μ')) : Ctr l D b yX6_leastJoining cX6_leastJoining 8 (some .int) 2 [(2, x0), (2, x1)] μ (some (.int (jI r))) μ' := by
  refine Ctr.of (by decide +kernel) (Nat.le_of_ble_eq_true rfl) ?_
  intro p e s m below meth c C hw ls hl
  exact w_X6_leastJoining_0 C hf t0 hw hl
end WALK
