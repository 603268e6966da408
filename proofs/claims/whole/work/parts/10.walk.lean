section WALK
variable {p : Program} {l : Launch} {e : Env} {s : State} {m : MethodId} {args : Array Value} {below : List Frame} {meth : Method} {c : Code} {H : Heap} {locs : List Loc} {D : Ds} {b : Nat} {n0 : Nat}
set_option maxHeartbeats 4000000 in
set_option maxRecDepth 20000 in
theorem w_X0_beginIn_0 (C : Cx p s m args meth c D b cX0_beginIn 2 RX0 (none)) {r : Int} {μ' : Mem} {x0 x1 : Int} {μ : Mem} {H : Heap} {locs : List Loc} {ls : Array Slot} (hf : f_X0_beginIn x0 x1 μ = some (r, μ')) (t0 : isK x0 0) (hw : Hw D b μ s.heap H locs) (hl : lvh b ls 2 [(0, 2, x0), (1, 2, x1)]) : W p l e (rm 1) s m args below meth c H locs 0 0 (QM below args s D b none μ') (F0 m 0 ls []) := by
  unfold f_X0_beginIn at hf
  refine r_aload_n C hl (kx := 0) rfl rfl dX0_beginIn_0 ?_
  refine r_aload_n C hl (kx := 1) rfl rfl dX0_beginIn_1 ?_
  obtain ⟨μ1, e2, hf⟩ := nm_some hf
  refine pf_0_15 C hw t0 dX0_beginIn_2 (fun H locs hw => ?_)
  rw [← e2] at hw
  refine r_aload_n C hl (kx := 0) rfl rfl dX0_beginIn_5 ?_
  refine r_aload_n C hl (kx := 1) rfl rfl dX0_beginIn_6 ?_
  obtain ⟨g3, hf⟩ := gd_some hf
  refine gf_0_19 C hw g3 dX0_beginIn_7 ?_
  obtain ⟨μ4, e5, hf⟩ := nm_some hf
  refine pf_0_25 C hw t0 dX0_beginIn_10 (fun H locs hw => ?_)
  rw [← e5] at hw
  refine r_aload_n C hl (kx := 0) rfl rfl dX0_beginIn_13 ?_
  refine r_aload_n C hl (kx := 1) rfl rfl dX0_beginIn_14 ?_
  refine gf_0_26 C hw g3 dX0_beginIn_15 ?_
  obtain ⟨μ6, e7, hf⟩ := nm_some hf
  refine pf_0_29 C hw t0 dX0_beginIn_18 (fun H locs hw => ?_)
  rw [← e7] at hw
  refine r_aload_n C hl (kx := 0) rfl rfl dX0_beginIn_21 ?_
  refine r_aload_n C hl (kx := 1) rfl rfl dX0_beginIn_22 ?_
  refine gf_0_30 C hw g3 dX0_beginIn_23 ?_
  obtain ⟨μ8, e9, hf⟩ := nm_some hf
  refine pf_0_33 C hw t0 dX0_beginIn_26 (fun H locs hw => ?_)
  rw [← e9] at hw
  refine r_aload_n C hl (kx := 0) rfl rfl dX0_beginIn_29 ?_
  refine r_iconst C dX0_beginIn_30 ?_
  obtain ⟨μ10, e11, hf⟩ := nm_some hf
  refine pf_0_34 C hw t0 dX0_beginIn_31 (fun H locs hw => ?_)
  rw [← e11] at hw
  refine r_aload_n C hl (kx := 1) rfl rfl dX0_beginIn_34 ?_
  refine gf_0_37 C hw g3 dX0_beginIn_35 ?_
  refine r_iconst C dX0_beginIn_38 ?_
  refine r_aload_n C hl (kx := 0) rfl rfl dX0_beginIn_39 ?_
  refine gf_0_9 C hw t0 dX0_beginIn_40 ?_
  refine r_iconst C dX0_beginIn_43 ?_
  refine r_bipush C (by decide) dX0_beginIn_44 ?_
  obtain ⟨μ12, e13, hf⟩ := nm_some hf
  refine r_copy9 C hw (ow_3_10 g3) (ow_0_5 t0) kl_0_38 (lvh_sz hl) (by decide) (by decide) (Nat.le_of_ble_eq_true rfl) dX0_beginIn_46 kn_copy ks_copy ki_copy (fun H locs hw => ?_)
  rw [← e13] at hw
  exact r_vret C hw hf dX0_beginIn_49
theorem c_X0_beginIn (l : Launch) (D : Ds) (b : Nat) {x0 x1 : Int} {μ μ' : Mem} {r : Int} (t0 : isK x0 0) (hf : f_X0_beginIn x0 x1 μ = some (r, μ')) : Ctr l D b yX0_beginIn cX0_beginIn 2 (none) 1 [(2, x0), (2, x1)] μ none μ' := by
  refine Ctr.of (by decide +kernel) (Nat.le_of_ble_eq_true rfl) ?_
  intro p e s m below meth c C hw ls hl
  exact w_X0_beginIn_0 C hf t0 hw hl
set_option maxHeartbeats 4000000 in
set_option maxRecDepth 20000 in
theorem w_X0_takeOver_0 (C : Cx p s m args meth c D b cX0_takeOver 2 RX0 (none)) {r : Int} {μ' : Mem} {x0 x1 : Int} {μ : Mem} {H : Heap} {locs : List Loc} {ls : Array Slot} (hf : f_X0_takeOver x0 x1 μ = some (r, μ')) (t0 : isK x0 0) (hw : Hw D b μ s.heap H locs) (hl : lvh b ls 2 [(0, 2, x0), (1, 2, x1)]) : W p l e (rm 1) s m args below meth c H locs 0 0 (QM below args s D b none μ') (F0 m 0 ls []) := by
  unfold f_X0_takeOver at hf
  refine r_aload_n C hl (kx := 0) rfl rfl dX0_takeOver_0 ?_
  refine r_aload_n C hl (kx := 1) rfl rfl dX0_takeOver_1 ?_
  obtain ⟨g1, hf⟩ := gd_some hf
  refine gf_0_15 C hw g1 dX0_takeOver_2 ?_
  obtain ⟨μ2, e3, hf⟩ := nm_some hf
  refine pf_0_15 C hw t0 dX0_takeOver_5 (fun H locs hw => ?_)
  rw [← e3] at hw
  refine r_aload_n C hl (kx := 0) rfl rfl dX0_takeOver_8 ?_
  refine r_aload_n C hl (kx := 1) rfl rfl dX0_takeOver_9 ?_
  refine gf_0_25 C hw g1 dX0_takeOver_10 ?_
  obtain ⟨μ4, e5, hf⟩ := nm_some hf
  refine pf_0_25 C hw t0 dX0_takeOver_13 (fun H locs hw => ?_)
  rw [← e5] at hw
  refine r_aload_n C hl (kx := 0) rfl rfl dX0_takeOver_16 ?_
  refine r_aload_n C hl (kx := 1) rfl rfl dX0_takeOver_17 ?_
  refine gf_0_29 C hw g1 dX0_takeOver_18 ?_
  obtain ⟨μ6, e7, hf⟩ := nm_some hf
  refine pf_0_29 C hw t0 dX0_takeOver_21 (fun H locs hw => ?_)
  rw [← e7] at hw
  refine r_aload_n C hl (kx := 0) rfl rfl dX0_takeOver_24 ?_
  refine r_aload_n C hl (kx := 1) rfl rfl dX0_takeOver_25 ?_
  refine gf_0_33 C hw g1 dX0_takeOver_26 ?_
  obtain ⟨μ8, e9, hf⟩ := nm_some hf
  refine pf_0_33 C hw t0 dX0_takeOver_29 (fun H locs hw => ?_)
  rw [← e9] at hw
  refine r_aload_n C hl (kx := 0) rfl rfl dX0_takeOver_32 ?_
  refine r_aload_n C hl (kx := 1) rfl rfl dX0_takeOver_33 ?_
  refine gf_0_34 C hw g1 dX0_takeOver_34 ?_
  obtain ⟨μ10, e11, hf⟩ := nm_some hf
  refine pf_0_34 C hw t0 dX0_takeOver_37 (fun H locs hw => ?_)
  rw [← e11] at hw
  refine r_aload_n C hl (kx := 1) rfl rfl dX0_takeOver_40 ?_
  refine gf_0_9 C hw g1 dX0_takeOver_41 ?_
  refine r_iconst C dX0_takeOver_44 ?_
  refine r_aload_n C hl (kx := 0) rfl rfl dX0_takeOver_45 ?_
  refine gf_0_9 C hw t0 dX0_takeOver_46 ?_
  refine r_iconst C dX0_takeOver_49 ?_
  refine r_bipush C (by decide) dX0_takeOver_50 ?_
  obtain ⟨μ12, e13, hf⟩ := nm_some hf
  refine r_copy9 C hw (ow_0_5 g1) (ow_0_5 t0) kl_0_38 (lvh_sz hl) (by decide) (by decide) (Nat.le_of_ble_eq_true rfl) dX0_takeOver_52 kn_copy ks_copy ki_copy (fun H locs hw => ?_)
  rw [← e13] at hw
  exact r_vret C hw hf dX0_takeOver_55
theorem c_X0_takeOver (l : Launch) (D : Ds) (b : Nat) {x0 x1 : Int} {μ μ' : Mem} {r : Int} (t0 : isK x0 0) (hf : f_X0_takeOver x0 x1 μ = some (r, μ')) : Ctr l D b yX0_takeOver cX0_takeOver 2 (none) 1 [(2, x0), (2, x1)] μ none μ' := by
  refine Ctr.of (by decide +kernel) (Nat.le_of_ble_eq_true rfl) ?_
  intro p e s m below meth c C hw ls hl
  exact w_X0_takeOver_0 C hf t0 hw hl
set_option maxHeartbeats 4000000 in
set_option maxRecDepth 20000 in
theorem w_X3_hasLane_0 (C : Cx p s m args meth c D b cX3_hasLane 2 RX3 (some .boolean)) {r : Int} {μ' : Mem} {x0 x1 : Int} {μ : Mem} {H : Heap} {locs : List Loc} {ls : Array Slot} (hf : f_X3_hasLane x0 x1 μ = some (r, μ')) (t0 : isK x0 3) (hw : Hw D b μ s.heap H locs) (hl : lvh b ls 2 [(0, 2, x0), (1, 0, x1)]) : W p l e (rm 0) s m args below meth c H locs 0 0 (QM below args s D b (some (.int (jI r))) μ') (F0 m 0 ls []) := by
  unfold f_X3_hasLane at hf
  refine r_iload_n C hl (kx := 1) rfl rfl dX3_hasLane_0 ?_
  refine r_if_lt C (tgt := 22) (by decide) dX3_hasLane_1 (fun c1 => ?_) (fun c1 => ?_)
  · have hf := ite_t c1 hf
    refine r_iconst C dX3_hasLane_22 ?_
    exact r_zret C hw (by decide) hf dX3_hasLane_23
  · have hf := ite_f c1 hf
    refine r_iload_n C hl (kx := 1) rfl rfl dX3_hasLane_4 ?_
    refine r_aload_n C hl (kx := 0) rfl rfl dX3_hasLane_5 ?_
    refine gf_3_41 C hw t0 dX3_hasLane_6 ?_
    refine r_icmp_ge C (tgt := 22) (by decide) dX3_hasLane_9 (fun c2 => ?_) (fun c2 => ?_)
    · have hf := ite_t c2 hf
      refine r_iconst C dX3_hasLane_22 ?_
      exact r_zret C hw (by decide) hf dX3_hasLane_23
    · have hf := ite_f c2 hf
      refine r_iload_n C hl (kx := 1) rfl rfl dX3_hasLane_12 ?_
      refine r_bipush C (by decide) dX3_hasLane_13 ?_
      refine r_icmp_ge C (tgt := 22) (by decide) dX3_hasLane_15 (fun c3 => ?_) (fun c3 => ?_)
      · have hf := ite_t c3 hf
        refine r_iconst C dX3_hasLane_22 ?_
        exact r_zret C hw (by decide) hf dX3_hasLane_23
      · have hf := ite_f c3 hf
        refine r_iconst C dX3_hasLane_18 ?_
        refine r_goto C (tgt := 23) (by decide) dX3_hasLane_19 ?_
        exact r_zret C hw (by decide) hf dX3_hasLane_23
theorem c_X3_hasLane (l : Launch) (D : Ds) (b : Nat) {x0 x1 : Int} {μ μ' : Mem} {r : Int} (t0 : isK x0 3) (hf : f_X3_hasLane x0 x1 μ = some (r, μ')) : Ctr l D b yX3_hasLane cX3_hasLane 2 (some .boolean) 0 [(2, x0), (0, x1)] μ (some (.int (jI r))) μ' := by
  refine Ctr.of (by decide +kernel) (Nat.le_of_ble_eq_true rfl) ?_
  intro p e s m below meth c C hw ls hl
  exact w_X3_hasLane_0 C hf t0 hw hl
set_option maxHeartbeats 4000000 in
set_option maxRecDepth 20000 in
theorem w_X0_depthOf_0 (C : Cx p s m args meth c D b cX0_depthOf 2 RX0 (some .int)) {r : Int} {μ' : Mem} {x0 x1 : Int} {μ : Mem} {H : Heap} {locs : List Loc} {ls : Array Slot} (hf : f_X0_depthOf x0 x1 μ = some (r, μ')) (t0 : isK x0 0) (hw : Hw D b μ s.heap H locs) (hl : lvh b ls 2 [(0, 2, x0), (1, 0, x1)]) : W p l e (rm 1) s m args below meth c H locs 0 0 (QM below args s D b (some (.int (jI r))) μ') (F0 m 0 ls []) := by
  unfold f_X0_depthOf at hf
  refine r_aload_n C hl (kx := 0) rfl rfl dX0_depthOf_0 ?_
  refine gf_0_15 C hw t0 dX0_depthOf_1 ?_
  refine r_iload_n C hl (kx := 1) rfl rfl dX0_depthOf_4 ?_
  obtain ⟨g1, hf⟩ := gd_some hf
  obtain ⟨r3, μ2, e4, hf⟩ := bn_some hf
  refine r_callVv C hw (K := [(0, x1)]) ok3 g1 (c_X3_hasLane l D b g1 e4) mi_X3_hasLane in_X3_hasLane se_X3_hasLane kl_0_44 rfl rfl (lvh_sz hl) (by decide) (Kr := []) rfl (Nat.le_of_ble_eq_true rfl) dX0_depthOf_5 (fun H locs hw => ?_)
  refine r_if_eq C (tgt := 20) (by decide) dX0_depthOf_8 (fun c5 => ?_) (fun c5 => ?_)
  · have hf := ite_t c5 hf
    refine r_iconst C dX0_depthOf_20 ?_
    exact r_iret C hw hf dX0_depthOf_21
  · have hf := ite_f c5 hf
    refine r_aload_n C hl (kx := 0) rfl rfl dX0_depthOf_11 ?_
    refine gf_0_9 C hw t0 dX0_depthOf_12 ?_
    refine r_iload_n C hl (kx := 1) rfl rfl dX0_depthOf_15 ?_
    obtain ⟨g6, hf⟩ := gd_some hf
    refine r_iald C hw (n := 9) (ow_0_5 t0) (j := (nrm x1)) rfl g6 (by decide) dX0_depthOf_16 ?_
    refine r_goto C (tgt := 21) (by decide) dX0_depthOf_17 ?_
    exact r_iret C hw hf dX0_depthOf_21
theorem c_X0_depthOf (l : Launch) (D : Ds) (b : Nat) {x0 x1 : Int} {μ μ' : Mem} {r : Int} (t0 : isK x0 0) (hf : f_X0_depthOf x0 x1 μ = some (r, μ')) : Ctr l D b yX0_depthOf cX0_depthOf 2 (some .int) 1 [(2, x0), (0, x1)] μ (some (.int (jI r))) μ' := by
  refine Ctr.of (by decide +kernel) (Nat.le_of_ble_eq_true rfl) ?_
  intro p e s m below meth c C hw ls hl
  exact w_X0_depthOf_0 C hf t0 hw hl
set_option maxHeartbeats 4000000 in
set_option maxRecDepth 20000 in
theorem w_X0_allDepths_4 (C : Cx p s m args meth c D b cX0_allDepths 3 RX0 (some .int)) {r : Int} {μ' : Mem} : ∀ (n : Nat) (x0 x1 x2 : Int) (μ : Mem) (H : Heap) (locs : List Loc) (ls : Array Slot), f_X0_allDepths_w4 n x0 x1 x2 μ = some (r, μ') → isK x0 0 → Hw D b μ s.heap H locs → lvh b ls 3 [(0, 2, x0), (1, 0, x1), (2, 0, x2)] → W p l e (rm 0) s m args below meth c H locs 0 0 (QM below args s D b (some (.int (jI r))) μ') (F0 m 4 ls []) := by
  intro n
  induction n with
  | zero => intro x0 x1 x2 μ H locs ls hf; cases hf
  | succ n ih =>
    intro x0 x1 x2 μ H locs ls hf t0 hw hl
    rw [f_X0_allDepths_w4.eq_2] at hf
    refine r_iload_n C hl (kx := 2) rfl rfl dX0_allDepths_4 ?_
    refine r_aload_n C hl (kx := 0) rfl rfl dX0_allDepths_5 ?_
    refine gf_0_15 C hw t0 dX0_allDepths_6 ?_
    obtain ⟨g1, hf⟩ := gd_some hf
    refine gf_0_48 C hw g1 dX0_allDepths_9 ?_
    refine r_icmp_ge C (tgt := 36) (by decide) dX0_allDepths_12 (fun c2 => ?_) (fun c2 => ?_)
    · have hf := ite_t c2 hf
      refine r_iload_n C hl (kx := 1) rfl rfl dX0_allDepths_36 ?_
      exact r_iret C hw hf dX0_allDepths_37
    · have hf := ite_f c2 hf
      refine r_iload_n C hl (kx := 2) rfl rfl dX0_allDepths_15 ?_
      refine r_bipush C (by decide) dX0_allDepths_16 ?_
      refine r_icmp_ge C (tgt := 36) (by decide) dX0_allDepths_18 (fun c3 => ?_) (fun c3 => ?_)
      · have hf := ite_t c3 hf
        refine r_iload_n C hl (kx := 1) rfl rfl dX0_allDepths_36 ?_
        exact r_iret C hw hf dX0_allDepths_37
      · have hf := ite_f c3 hf
        refine r_iload_n C hl (kx := 1) rfl rfl dX0_allDepths_21 ?_
        refine r_aload_n C hl (kx := 0) rfl rfl dX0_allDepths_22 ?_
        refine gf_0_9 C hw t0 dX0_allDepths_23 ?_
        refine r_iload_n C hl (kx := 2) rfl rfl dX0_allDepths_26 ?_
        obtain ⟨g4, hf⟩ := gd_some hf
        refine r_iald C hw (n := 9) (ow_0_5 t0) (j := (nrm x2)) rfl g4 (by decide) dX0_allDepths_27 ?_
        refine r_iadd C dX0_allDepths_28 ?_
        obtain ⟨v5, e6, hf⟩ := nm_some hf
        refine top_i e6 ?_
        refine r_istore_n C hl (by decide) (L' := [(1, 0, v5), (0, 2, x0), (2, 0, x2)]) rfl rfl dX0_allDepths_29 (fun ls hl => ?_)
        refine r_iinc C hl (kx := 2) rfl (by decide) (L' := [(2, 0, (x2 + 1)), (1, 0, v5), (0, 2, x0)]) rfl dX0_allDepths_30 (fun ls hl => ?_)
        refine r_goto C (tgt := 4) (by decide) dX0_allDepths_33 ?_
        exact ih _ _ _ _ _ _ _ hf t0 hw (lvh_sub hl [2, 1, 0] rfl)
set_option maxHeartbeats 4000000 in
set_option maxRecDepth 20000 in
theorem w_X0_allDepths_0 (C : Cx p s m args meth c D b cX0_allDepths 3 RX0 (some .int)) {r : Int} {μ' : Mem} {x0 : Int} {μ : Mem} {H : Heap} {locs : List Loc} {ls : Array Slot} (hf : f_X0_allDepths x0 μ = some (r, μ')) (t0 : isK x0 0) (hw : Hw D b μ s.heap H locs) (hl : lvh b ls 3 [(0, 2, x0)]) : W p l e (rm 0) s m args below meth c H locs 0 0 (QM below args s D b (some (.int (jI r))) μ') (F0 m 0 ls []) := by
  unfold f_X0_allDepths at hf
  refine r_iconst C dX0_allDepths_0 ?_
  refine r_istore_n C hl (by decide) (L' := [(1, 0, 0), (0, 2, x0)]) rfl rfl dX0_allDepths_1 (fun ls hl => ?_)
  refine r_iconst C dX0_allDepths_2 ?_
  refine r_istore_n C hl (by decide) (L' := [(2, 0, 0), (1, 0, 0), (0, 2, x0)]) rfl rfl dX0_allDepths_3 (fun ls hl => ?_)
  exact w_X0_allDepths_4 C FU _ _ _ _ _ _ _ hf t0 hw (lvh_sub hl [2, 1, 0] rfl)
theorem c_X0_allDepths (l : Launch) (D : Ds) (b : Nat) {x0 : Int} {μ μ' : Mem} {r : Int} (t0 : isK x0 0) (hf : f_X0_allDepths x0 μ = some (r, μ')) : Ctr l D b yX0_allDepths cX0_allDepths 3 (some .int) 0 [(2, x0)] μ (some (.int (jI r))) μ' := by
  refine Ctr.of (by decide +kernel) (Nat.le_of_ble_eq_true rfl) ?_
  intro p e s m below meth c C hw ls hl
  exact w_X0_allDepths_0 C hf t0 hw hl
set_option maxHeartbeats 4000000 in
set_option maxRecDepth 20000 in
theorem w_X4_hasLaw_0 (C : Cx p s m args meth c D b cX4_hasLaw 2 RX4 (some .boolean)) {r : Int} {μ' : Mem} {x0 x1 : Int} {μ : Mem} {H : Heap} {locs : List Loc} {ls : Array Slot} (hf : f_X4_hasLaw x0 x1 μ = some (r, μ')) (t0 : isK x0 4) (hw : Hw D b μ s.heap H locs) (hl : lvh b ls 2 [(0, 2, x0), (1, 0, x1)]) : W p l e (rm 0) s m args below meth c H locs 0 0 (QM below args s D b (some (.int (jI r))) μ') (F0 m 0 ls []) := by
  unfold f_X4_hasLaw at hf
  refine r_iload_n C hl (kx := 1) rfl rfl dX4_hasLaw_0 ?_
  refine r_if_lt C (tgt := 28) (by decide) dX4_hasLaw_1 (fun c1 => ?_) (fun c1 => ?_)
  · have hf := ite_t c1 hf
    refine r_iconst C dX4_hasLaw_28 ?_
    exact r_zret C hw (by decide) hf dX4_hasLaw_29
  · have hf := ite_f c1 hf
    refine r_iload_n C hl (kx := 1) rfl rfl dX4_hasLaw_4 ?_
    refine r_iconst C dX4_hasLaw_5 ?_
    refine r_icmp_ge C (tgt := 28) (by decide) dX4_hasLaw_6 (fun c2 => ?_) (fun c2 => ?_)
    · have hf := ite_t c2 hf
      refine r_iconst C dX4_hasLaw_28 ?_
      exact r_zret C hw (by decide) hf dX4_hasLaw_29
    · have hf := ite_f c2 hf
      refine r_aload_n C hl (kx := 0) rfl rfl dX4_hasLaw_9 ?_
      refine gf_4_18 C hw t0 dX4_hasLaw_10 ?_
      refine r_iload_n C hl (kx := 1) rfl rfl dX4_hasLaw_13 ?_
      obtain ⟨g3, hf⟩ := gd_some hf
      refine r_iald C hw (n := 2) (ow_4_3 t0) (j := (nrm x1)) rfl g3 (by decide) dX4_hasLaw_14 ?_
      refine r_aload_n C hl (kx := 0) rfl rfl dX4_hasLaw_15 ?_
      refine gf_4_15 C hw t0 dX4_hasLaw_16 ?_
      refine r_iload_n C hl (kx := 1) rfl rfl dX4_hasLaw_19 ?_
      obtain ⟨g4, hf⟩ := gd_some hf
      refine r_iald C hw (n := 2) (ow_4_2 t0) (j := (nrm x1)) rfl g4 (by decide) dX4_hasLaw_20 ?_
      refine r_icmp_le C (tgt := 28) (by decide) dX4_hasLaw_21 (fun c5 => ?_) (fun c5 => ?_)
      · have hf := ite_t c5 hf
        refine r_iconst C dX4_hasLaw_28 ?_
        exact r_zret C hw (by decide) hf dX4_hasLaw_29
      · have hf := ite_f c5 hf
        refine r_iconst C dX4_hasLaw_24 ?_
        refine r_goto C (tgt := 29) (by decide) dX4_hasLaw_25 ?_
        exact r_zret C hw (by decide) hf dX4_hasLaw_29
theorem c_X4_hasLaw (l : Launch) (D : Ds) (b : Nat) {x0 x1 : Int} {μ μ' : Mem} {r : Int} (t0 : isK x0 4) (hf : f_X4_hasLaw x0 x1 μ = some (r, μ')) : Ctr l D b yX4_hasLaw cX4_hasLaw 2 (some .boolean) 0 [(2, x0), (0, x1)] μ (some (.int (jI r))) μ' := by
  refine Ctr.of (by decide +kernel) (Nat.le_of_ble_eq_true rfl) ?_
  intro p e s m below meth c C hw ls hl
  exact w_X4_hasLaw_0 C hf t0 hw hl
set_option maxHeartbeats 4000000 in
set_option maxRecDepth 20000 in
theorem w_J6_bitCount_0f7a4_0 (C : Cx p s m args meth c D b cJ6_bitCount_0f7a4 1 RJ6 (some .int)) {r : Int} {μ' : Mem} {x0 : Int} {μ : Mem} {H : Heap} {locs : List Loc} {ls : Array Slot} (hf : f_J6_bitCount_0f7a4 x0 μ = some (r, μ')) (hw : Hw D b μ s.heap H locs) (hl : lvh b ls 1 [(0, 0, x0)]) : W p l e (rm 0) s m args below meth c H locs 0 0 (QM below args s D b (some (.int (jI r))) μ') (F0 m 0 ls []) := by
  unfold f_J6_bitCount_0f7a4 at hf
  refine r_iload_n C hl (kx := 0) rfl rfl dJ6_bitCount_0f7a4_0 ?_
  refine r_iload_n C hl (kx := 0) rfl rfl dJ6_bitCount_0f7a4_1 ?_
  refine r_iconst C dJ6_bitCount_0f7a4_2 ?_
  refine r_iushr C dJ6_bitCount_0f7a4_3 ?_
  refine r_ldcw C (z := 1431655765) (by decide) kw863 dJ6_bitCount_0f7a4_4 ?_
  refine r_iand C dJ6_bitCount_0f7a4_7 ?_
  refine r_isub C dJ6_bitCount_0f7a4_8 ?_
  obtain ⟨v1, e2, hf⟩ := nm_some hf
  refine top_i e2 ?_
  refine r_istore_n C hl (by decide) (L' := [(0, 0, v1)]) rfl rfl dJ6_bitCount_0f7a4_9 (fun ls hl => ?_)
  refine r_iload_n C hl (kx := 0) rfl rfl dJ6_bitCount_0f7a4_10 ?_
  refine r_ldcw C (z := 858993459) (by decide) kw864 dJ6_bitCount_0f7a4_11 ?_
  refine r_iand C dJ6_bitCount_0f7a4_14 ?_
  refine r_iload_n C hl (kx := 0) rfl rfl dJ6_bitCount_0f7a4_15 ?_
  refine r_iconst C dJ6_bitCount_0f7a4_16 ?_
  refine r_iushr C dJ6_bitCount_0f7a4_17 ?_
  refine r_ldcw C (z := 858993459) (by decide) kw864 dJ6_bitCount_0f7a4_18 ?_
  refine r_iand C dJ6_bitCount_0f7a4_21 ?_
  refine r_iadd C dJ6_bitCount_0f7a4_22 ?_
  obtain ⟨v3, e4, hf⟩ := nm_some hf
  refine top_i e4 ?_
  refine r_istore_n C hl (by decide) (L' := [(0, 0, v3)]) rfl rfl dJ6_bitCount_0f7a4_23 (fun ls hl => ?_)
  refine r_iload_n C hl (kx := 0) rfl rfl dJ6_bitCount_0f7a4_24 ?_
  refine r_iload_n C hl (kx := 0) rfl rfl dJ6_bitCount_0f7a4_25 ?_
  refine r_iconst C dJ6_bitCount_0f7a4_26 ?_
  refine r_iushr C dJ6_bitCount_0f7a4_27 ?_
  refine r_iadd C dJ6_bitCount_0f7a4_28 ?_
  refine r_ldcw C (z := 252645135) (by decide) kw865 dJ6_bitCount_0f7a4_29 ?_
  refine r_iand C dJ6_bitCount_0f7a4_32 ?_
  obtain ⟨v5, e6, hf⟩ := nm_some hf
  refine top_i e6 ?_
  refine r_istore_n C hl (by decide) (L' := [(0, 0, v5)]) rfl rfl dJ6_bitCount_0f7a4_33 (fun ls hl => ?_)
  refine r_iload_n C hl (kx := 0) rfl rfl dJ6_bitCount_0f7a4_34 ?_
  refine r_iload_n C hl (kx := 0) rfl rfl dJ6_bitCount_0f7a4_35 ?_
  refine r_bipush C (by decide) dJ6_bitCount_0f7a4_36 ?_
  refine r_iushr C dJ6_bitCount_0f7a4_38 ?_
  refine r_iadd C dJ6_bitCount_0f7a4_39 ?_
  obtain ⟨v7, e8, hf⟩ := nm_some hf
  refine top_i e8 ?_
  refine r_istore_n C hl (by decide) (L' := [(0, 0, v7)]) rfl rfl dJ6_bitCount_0f7a4_40 (fun ls hl => ?_)
  refine r_iload_n C hl (kx := 0) rfl rfl dJ6_bitCount_0f7a4_41 ?_
  refine r_iload_n C hl (kx := 0) rfl rfl dJ6_bitCount_0f7a4_42 ?_
  refine r_bipush C (by decide) dJ6_bitCount_0f7a4_43 ?_
  refine r_iushr C dJ6_bitCount_0f7a4_45 ?_
  refine r_iadd C dJ6_bitCount_0f7a4_46 ?_
  obtain ⟨v9, e10, hf⟩ := nm_some hf
  refine top_i e10 ?_
  refine r_istore_n C hl (by decide) (L' := [(0, 0, v9)]) rfl rfl dJ6_bitCount_0f7a4_47 (fun ls hl => ?_)
  refine r_iload_n C hl (kx := 0) rfl rfl dJ6_bitCount_0f7a4_48 ?_
  refine r_bipush C (by decide) dJ6_bitCount_0f7a4_49 ?_
  refine r_iand C dJ6_bitCount_0f7a4_51 ?_
  exact r_iret C hw hf dJ6_bitCount_0f7a4_52
theorem c_J6_bitCount_0f7a4 (l : Launch) (D : Ds) (b : Nat) {x0 : Int} {μ μ' : Mem} {r : Int} (hf : f_J6_bitCount_0f7a4 x0 μ = some (r, μ')) : Ctr l D b yJ6_bitCount_0f7a4 cJ6_bitCount_0f7a4 1 (some .int) 0 [(0, x0)] μ (some (.int (jI r))) μ' := by
  refine Ctr.of (by decide +kernel) (Nat.le_of_ble_eq_true rfl) ?_
  intro p e s m below meth c C hw ls hl
  exact w_J6_bitCount_0f7a4_0 C hf hw hl
set_option maxHeartbeats 4000000 in
set_option maxRecDepth 20000 in
theorem w_X4_look_0 (C : Cx p s m args meth c D b cX4_look 7 RX4 (none)) {r : Int} {μ' : Mem} {x0 x1 x2 x3 x4 x5 x6 : Int} {μ : Mem} {H : Heap} {locs : List Loc} {ls : Array Slot} (hf : f_X4_look x0 x1 x2 x3 x4 x5 x6 μ = some (r, μ')) (t0 : isK x0 4) (hw : Hw D b μ s.heap H locs) (hl : lvh b ls 7 [(0, 2, x0), (1, 0, x1), (2, 0, x2), (3, 0, x3), (4, 0, x4), (5, 0, x5), (6, 0, x6)]) : W p l e (rm 0) s m args below meth c H locs 0 0 (QM below args s D b none μ') (F0 m 0 ls []) := by
  unfold f_X4_look at hf
  refine r_aload_n C hl (kx := 0) rfl rfl dX4_look_0 ?_
  refine gf_4_21 C hw t0 dX4_look_1 ?_
  refine r_iconst C dX4_look_4 ?_
  refine r_iload_n C hl (kx := 1) rfl rfl dX4_look_5 ?_
  obtain ⟨μ1, e2, hf⟩ := nm_some hf
  refine r_iast C hw (n := 6) (ow_4_4 t0) (j := 0) (by decide) (by decide) (by decide) dX4_look_6 (fun H locs hw => ?_)
  rw [← e2] at hw
  refine r_aload_n C hl (kx := 0) rfl rfl dX4_look_7 ?_
  refine gf_4_21 C hw t0 dX4_look_8 ?_
  refine r_iconst C dX4_look_11 ?_
  refine r_iload_n C hl (kx := 2) rfl rfl dX4_look_12 ?_
  obtain ⟨μ3, e4, hf⟩ := nm_some hf
  refine r_iast C hw (n := 6) (ow_4_4 t0) (j := 1) (by decide) (by decide) (by decide) dX4_look_13 (fun H locs hw => ?_)
  rw [← e4] at hw
  refine r_aload_n C hl (kx := 0) rfl rfl dX4_look_14 ?_
  refine gf_4_21 C hw t0 dX4_look_15 ?_
  refine r_iconst C dX4_look_18 ?_
  refine r_iload_n C hl (kx := 3) rfl rfl dX4_look_19 ?_
  obtain ⟨μ5, e6, hf⟩ := nm_some hf
  refine r_iast C hw (n := 6) (ow_4_4 t0) (j := 2) (by decide) (by decide) (by decide) dX4_look_20 (fun H locs hw => ?_)
  rw [← e6] at hw
  refine r_aload_n C hl (kx := 0) rfl rfl dX4_look_21 ?_
  refine gf_4_21 C hw t0 dX4_look_22 ?_
  refine r_iconst C dX4_look_25 ?_
  refine r_iload C hl (kx := 4) rfl dX4_look_26 ?_
  obtain ⟨μ7, e8, hf⟩ := nm_some hf
  refine r_iast C hw (n := 6) (ow_4_4 t0) (j := 3) (by decide) (by decide) (by decide) dX4_look_28 (fun H locs hw => ?_)
  rw [← e8] at hw
  refine r_aload_n C hl (kx := 0) rfl rfl dX4_look_29 ?_
  refine gf_4_21 C hw t0 dX4_look_30 ?_
  refine r_iconst C dX4_look_33 ?_
  refine r_iload C hl (kx := 5) rfl dX4_look_34 ?_
  obtain ⟨μ9, e10, hf⟩ := nm_some hf
  refine r_iast C hw (n := 6) (ow_4_4 t0) (j := 4) (by decide) (by decide) (by decide) dX4_look_36 (fun H locs hw => ?_)
  rw [← e10] at hw
  refine r_aload_n C hl (kx := 0) rfl rfl dX4_look_37 ?_
  refine gf_4_21 C hw t0 dX4_look_38 ?_
  refine r_iconst C dX4_look_41 ?_
  refine r_iload C hl (kx := 6) rfl dX4_look_42 ?_
  obtain ⟨μ11, e12, hf⟩ := nm_some hf
  refine r_iast C hw (n := 6) (ow_4_4 t0) (j := 5) (by decide) (by decide) (by decide) dX4_look_44 (fun H locs hw => ?_)
  rw [← e12] at hw
  exact r_vret C hw hf dX4_look_45
theorem c_X4_look (l : Launch) (D : Ds) (b : Nat) {x0 x1 x2 x3 x4 x5 x6 : Int} {μ μ' : Mem} {r : Int} (t0 : isK x0 4) (hf : f_X4_look x0 x1 x2 x3 x4 x5 x6 μ = some (r, μ')) : Ctr l D b yX4_look cX4_look 7 (none) 0 [(2, x0), (0, x1), (0, x2), (0, x3), (0, x4), (0, x5), (0, x6)] μ none μ' := by
  refine Ctr.of (by decide +kernel) (Nat.le_of_ble_eq_true rfl) ?_
  intro p e s m below meth c C hw ls hl
  exact w_X4_look_0 C hf t0 hw hl
set_option maxHeartbeats 4000000 in
set_option maxRecDepth 20000 in
theorem w_X4_push_0 (C : Cx p s m args meth c D b cX4_push 2 RX4 (none)) {r : Int} {μ' : Mem} {x0 x1 : Int} {μ : Mem} {H : Heap} {locs : List Loc} {ls : Array Slot} (hf : f_X4_push x0 x1 μ = some (r, μ')) (t0 : isK x0 4) (hw : Hw D b μ s.heap H locs) (hl : lvh b ls 2 [(0, 2, x0), (1, 0, x1)]) : W p l e (rm 0) s m args below meth c H locs 0 0 (QM below args s D b none μ') (F0 m 0 ls []) := by
  unfold f_X4_push at hf
  refine r_aload_n C hl (kx := 0) rfl rfl dX4_push_0 ?_
  refine gf_4_37 C hw t0 dX4_push_1 ?_
  refine r_if_lt C (tgt := 39) (by decide) dX4_push_4 (fun c1 => ?_) (fun c1 => ?_)
  · have hf := ite_t c1 hf
    exact r_vret C hw hf dX4_push_39
  · have hf := ite_f c1 hf
    refine r_aload_n C hl (kx := 0) rfl rfl dX4_push_7 ?_
    refine gf_4_37 C hw t0 dX4_push_8 ?_
    refine r_aload_n C hl (kx := 0) rfl rfl dX4_push_11 ?_
    refine gf_4_24 C hw t0 dX4_push_12 ?_
    refine r_alen1 C hw (n := 64) (ow_4_5 t0) (by decide) (z := 64) rfl dX4_push_15 ?_
    refine r_icmp_ge C (tgt := 39) (by decide) dX4_push_16 (fun c2 => ?_) (fun c2 => ?_)
    · have hf := ite_t c2 hf
      exact r_vret C hw hf dX4_push_39
    · have hf := ite_f c2 hf
      refine r_aload_n C hl (kx := 0) rfl rfl dX4_push_19 ?_
      refine gf_4_24 C hw t0 dX4_push_20 ?_
      refine r_aload_n C hl (kx := 0) rfl rfl dX4_push_23 ?_
      refine gf_4_37 C hw t0 dX4_push_24 ?_
      refine r_iload_n C hl (kx := 1) rfl rfl dX4_push_27 ?_
      obtain ⟨g5, hf⟩ := gd_some hf
      obtain ⟨μ3, e4, hf⟩ := nm_some hf
      refine r_iast C hw (n := 64) (ow_4_5 t0) (j := (nrm (μ x0 6))) rfl g5 (by decide) dX4_push_28 (fun H locs hw => ?_)
      rw [← e4] at hw
      refine r_aload_n C hl (kx := 0) rfl rfl dX4_push_29 ?_
      refine r_dup C (rfv_cat _ _) dX4_push_30 ?_
      refine gf_4_37 C hw t0 dX4_push_31 ?_
      refine r_iconst C dX4_push_34 ?_
      refine r_iadd C dX4_push_35 ?_
      obtain ⟨μ6, e7, hf⟩ := nm_some hf
      refine pf_4_37 C hw t0 dX4_push_36 (fun H locs hw => ?_)
      rw [← e7] at hw
      exact r_vret C hw hf dX4_push_39
theorem c_X4_push (l : Launch) (D : Ds) (b : Nat) {x0 x1 : Int} {μ μ' : Mem} {r : Int} (t0 : isK x0 4) (hf : f_X4_push x0 x1 μ = some (r, μ')) : Ctr l D b yX4_push cX4_push 2 (none) 0 [(2, x0), (0, x1)] μ none μ' := by
  refine Ctr.of (by decide +kernel) (Nat.le_of_ble_eq_true rfl) ?_
  intro p e s m below meth c C hw ls hl
  exact w_X4_push_0 C hf t0 hw hl
set_option maxHeartbeats 4000000 in
set_option maxRecDepth 20000 in
theorem w_X4_pop_0 (C : Cx p s m args meth c D b cX4_pop 1 RX4 (some .int)) {r : Int} {μ' : Mem} {x0 : Int} {μ : Mem} {H : Heap} {locs : List Loc} {ls : Array Slot} (hf : f_X4_pop x0 μ = some (r, μ')) (t0 : isK x0 4) (hw : Hw D b μ s.heap H locs) (hl : lvh b ls 1 [(0, 2, x0)]) : W p l e (rm 0) s m args below meth c H locs 0 0 (QM below args s D b (some (.int (jI r))) μ') (F0 m 0 ls []) := by
  unfold f_X4_pop at hf
  refine r_aload_n C hl (kx := 0) rfl rfl dX4_pop_0 ?_
  refine gf_4_37 C hw t0 dX4_pop_1 ?_
  refine r_iconst C dX4_pop_4 ?_
  refine r_icmp_lt C (tgt := 20) (by decide) dX4_pop_5 (fun c1 => ?_) (fun c1 => ?_)
  · have hf := ite_t c1 hf
    refine r_iconst C dX4_pop_20 ?_
    exact r_iret C hw hf dX4_pop_21
  · have hf := ite_f c1 hf
    refine r_aload_n C hl (kx := 0) rfl rfl dX4_pop_8 ?_
    refine gf_4_37 C hw t0 dX4_pop_9 ?_
    refine r_aload_n C hl (kx := 0) rfl rfl dX4_pop_12 ?_
    refine gf_4_24 C hw t0 dX4_pop_13 ?_
    refine r_alen1 C hw (n := 64) (ow_4_5 t0) (by decide) (z := 64) rfl dX4_pop_16 ?_
    refine r_icmp_le C (tgt := 22) (by decide) dX4_pop_17 (fun c2 => ?_) (fun c2 => ?_)
    · have hf := ite_t c2 hf
      refine r_aload_n C hl (kx := 0) rfl rfl dX4_pop_22 ?_
      refine r_dup C (rfv_cat _ _) dX4_pop_23 ?_
      refine gf_4_37 C hw t0 dX4_pop_24 ?_
      refine r_iconst C dX4_pop_27 ?_
      refine r_isub C dX4_pop_28 ?_
      obtain ⟨μ3, e4, hf⟩ := nm_some hf
      refine pf_4_37 C hw t0 dX4_pop_29 (fun H locs hw => ?_)
      rw [← e4] at hw
      refine r_aload_n C hl (kx := 0) rfl rfl dX4_pop_32 ?_
      refine gf_4_24 C hw t0 dX4_pop_33 ?_
      refine r_aload_n C hl (kx := 0) rfl rfl dX4_pop_36 ?_
      refine gf_4_37 C hw t0 dX4_pop_37 ?_
      obtain ⟨g5, hf⟩ := gd_some hf
      refine r_iald C hw (n := 64) (ow_4_5 t0) (j := (nrm (μ3 x0 6))) rfl g5 (by decide) dX4_pop_40 ?_
      exact r_iret C hw hf dX4_pop_41
    · have hf := ite_f c2 hf
      refine r_iconst C dX4_pop_20 ?_
      exact r_iret C hw hf dX4_pop_21
theorem c_X4_pop (l : Launch) (D : Ds) (b : Nat) {x0 : Int} {μ μ' : Mem} {r : Int} (t0 : isK x0 4) (hf : f_X4_pop x0 μ = some (r, μ')) : Ctr l D b yX4_pop cX4_pop 1 (some .int) 0 [(2, x0)] μ (some (.int (jI r))) μ' := by
  refine Ctr.of (by decide +kernel) (Nat.le_of_ble_eq_true rfl) ?_
  intro p e s m below meth c C hw ls hl
  exact w_X4_pop_0 C hf t0 hw hl
set_option maxHeartbeats 4000000 in
set_option maxRecDepth 20000 in
theorem w_X4_reckon_31 (C : Cx p s m args meth c D b cX4_reckon 5 RX4 (some .int)) {r : Int} {μ' : Mem} {s0 : Int} {μ : Mem} {H : Heap} {locs : List Loc} {ls : Array Slot} (hf : f_X4_reckon_j31 s0 μ = some (r, μ')) (hw : Hw D b μ s.heap H locs) (hl : lvh b ls 5 []) : W p l e (rm 0) s m args below meth c H locs 0 0 (QM below args s D b (some (.int (jI r))) μ') (F0 m 31 ls [.long (jL s0)]) := by
  unfold f_X4_reckon_j31 at hf
  refine r_lstore_n C hl (by decide) (L' := [(3, 1, s0)]) rfl rfl dX4_reckon_31 (fun ls hl => ?_)
  refine r_lload_n C hl (kx := 0) rfl rfl dX4_reckon_32 ?_
  refine r_ldc2 C (z := 1000000) (by decide) kw887 dX4_reckon_33 ?_
  refine r_lcmp C dX4_reckon_36 ?_
  refine r_if_le C (tgt := 43) (by decide) dX4_reckon_37 (fun c1 => ?_) (fun c1 => ?_)
  · have hf := ite_t c1 hf
    refine r_lload_n C hl (kx := 0) rfl rfl dX4_reckon_43 ?_
    refine r_ldc2 C (z := (-1000000)) (by decide) kw889 dX4_reckon_44 ?_
    refine r_lcmp C dX4_reckon_47 ?_
    refine r_if_ge C (tgt := 56) (by decide) dX4_reckon_48 (fun c2 => ?_) (fun c2 => ?_)
    · have hf := ite_t c2 hf
      refine r_lload_n C hl (kx := 0) rfl rfl dX4_reckon_56 ?_
      refine r_l2i C dX4_reckon_57 ?_
      exact r_iret C hw hf dX4_reckon_58
    · have hf := ite_f c2 hf
      refine r_ldc C (z := (-1000000)) (by decide) kw890 dX4_reckon_51 ?_
      refine r_goto C (tgt := 58) (by decide) dX4_reckon_53 ?_
      exact r_iret C hw hf dX4_reckon_58
  · have hf := ite_f c1 hf
    refine r_ldc C (z := 1000000) (by decide) kw888 dX4_reckon_40 ?_
    exact r_iret C hw hf dX4_reckon_42
set_option maxHeartbeats 4000000 in
set_option maxRecDepth 20000 in
theorem w_X4_reckon_0 (C : Cx p s m args meth c D b cX4_reckon 5 RX4 (some .int)) {r : Int} {μ' : Mem} {x0 x1 x2 : Int} {μ : Mem} {H : Heap} {locs : List Loc} {ls : Array Slot} (hf : f_X4_reckon x0 x1 x2 μ = some (r, μ')) (hw : Hw D b μ s.heap H locs) (hl : lvh b ls 5 [(0, 0, x0), (1, 0, x1), (2, 0, x2)]) : W p l e (rm 0) s m args below meth c H locs 0 0 (QM below args s D b (some (.int (jI r))) μ') (F0 m 0 ls []) := by
  unfold f_X4_reckon at hf
  refine r_iload_n C hl (kx := 0) rfl rfl dX4_reckon_0 ?_
  refine r_iconst C dX4_reckon_1 ?_
  refine r_icmp_ne C (tgt := 13) (by decide) dX4_reckon_2 (fun c1 => ?_) (fun c1 => ?_)
  · have hf := ite_f c1 hf
    refine r_iload_n C hl (kx := 0) rfl rfl dX4_reckon_13 ?_
    refine r_iconst C dX4_reckon_14 ?_
    refine r_icmp_ne C (tgt := 26) (by decide) dX4_reckon_15 (fun c2 => ?_) (fun c2 => ?_)
    · have hf := ite_f c2 hf
      refine r_iload_n C hl (kx := 1) rfl rfl dX4_reckon_26 ?_
      refine r_i2l C dX4_reckon_27 ?_
      refine r_iload_n C hl (kx := 2) rfl rfl dX4_reckon_28 ?_
      refine r_i2l C dX4_reckon_29 ?_
      refine r_lmul C dX4_reckon_30 ?_
      exact w_X4_reckon_31 C hf hw (lvh_sub hl [] rfl)
    · have hf := ite_t c2 hf
      refine r_iload_n C hl (kx := 1) rfl rfl dX4_reckon_18 ?_
      refine r_i2l C dX4_reckon_19 ?_
      refine r_iload_n C hl (kx := 2) rfl rfl dX4_reckon_20 ?_
      refine r_i2l C dX4_reckon_21 ?_
      refine r_lsub C dX4_reckon_22 ?_
      refine r_goto C (tgt := 31) (by decide) dX4_reckon_23 ?_
      exact w_X4_reckon_31 C hf hw (lvh_sub hl [] rfl)
  · have hf := ite_t c1 hf
    refine r_iload_n C hl (kx := 1) rfl rfl dX4_reckon_5 ?_
    refine r_i2l C dX4_reckon_6 ?_
    refine r_iload_n C hl (kx := 2) rfl rfl dX4_reckon_7 ?_
    refine r_i2l C dX4_reckon_8 ?_
    refine r_ladd C dX4_reckon_9 ?_
    refine r_goto C (tgt := 31) (by decide) dX4_reckon_10 ?_
    exact w_X4_reckon_31 C hf hw (lvh_sub hl [] rfl)
theorem c_X4_reckon (l : Launch) (D : Ds) (b : Nat) {x0 x1 x2 : Int} {μ μ' : Mem} {r : Int} (hf : f_X4_reckon x0 x1 x2 μ = some (r, μ')) : Ctr l D b yX4_reckon cX4_reckon 5 (some .int) 0 [(0, x0), (0, x1), (0, x2)] μ (some (.int (jI r))) μ' := by
  refine Ctr.of (by decide +kernel) (Nat.le_of_ble_eq_true rfl) ?_
  intro p e s m below meth c C hw ls hl
  exact w_X4_reckon_0 C hf hw hl
set_option maxHeartbeats 4000000 in
set_option maxRecDepth 20000 in
theorem w_X4_compare_0 (C : Cx p s m args meth c D b cX4_compare 3 RX4 (some .int)) {r : Int} {μ' : Mem} {x0 x1 x2 : Int} {μ : Mem} {H : Heap} {locs : List Loc} {ls : Array Slot} (hf : f_X4_compare x0 x1 x2 μ = some (r, μ')) (hw : Hw D b μ s.heap H locs) (hl : lvh b ls 3 [(0, 0, x0), (1, 0, x1), (2, 0, x2)]) : W p l e (rm 0) s m args below meth c H locs 0 0 (QM below args s D b (some (.int (jI r))) μ') (F0 m 0 ls []) := by
  unfold f_X4_compare at hf
  refine r_iload_n C hl (kx := 0) rfl rfl dX4_compare_0 ?_
  rcases Decidable.em (nrm x0 = 5) with c1 | c1
  · have hf := ite_t c1 hf
    refine r_tabIn C (tgt := 36) c1 (by decide) (by decide) rfl (by decide) dX4_compare_1 ?_
    refine r_iload_n C hl (kx := 1) rfl rfl dX4_compare_36 ?_
    refine r_iload_n C hl (kx := 2) rfl rfl dX4_compare_37 ?_
    refine r_icmp_ne C (tgt := 45) (by decide) dX4_compare_38 (fun c2 => ?_) (fun c2 => ?_)
    · have hf := ite_f c2 hf
      refine r_iconst C dX4_compare_45 ?_
      exact r_iret C hw hf dX4_compare_46
    · have hf := ite_t c2 hf
      refine r_iconst C dX4_compare_41 ?_
      refine r_goto C (tgt := 46) (by decide) dX4_compare_42 ?_
      exact r_iret C hw hf dX4_compare_46
  have hf := ite_f c1 hf
  rcases Decidable.em (nrm x0 = 6) with c3 | c3
  · have hf := ite_t c3 hf
    refine r_tabIn C (tgt := 47) c3 (by decide) (by decide) rfl (by decide) dX4_compare_1 ?_
    refine r_iload_n C hl (kx := 1) rfl rfl dX4_compare_47 ?_
    refine r_iload_n C hl (kx := 2) rfl rfl dX4_compare_48 ?_
    refine r_icmp_ge C (tgt := 56) (by decide) dX4_compare_49 (fun c4 => ?_) (fun c4 => ?_)
    · have hf := ite_t c4 hf
      refine r_iconst C dX4_compare_56 ?_
      exact r_iret C hw hf dX4_compare_57
    · have hf := ite_f c4 hf
      refine r_iconst C dX4_compare_52 ?_
      refine r_goto C (tgt := 57) (by decide) dX4_compare_53 ?_
      exact r_iret C hw hf dX4_compare_57
  have hf := ite_f c3 hf
  rcases Decidable.em (nrm x0 = 7) with c5 | c5
  · have hf := ite_t c5 hf
    refine r_tabIn C (tgt := 58) c5 (by decide) (by decide) rfl (by decide) dX4_compare_1 ?_
    refine r_iload_n C hl (kx := 1) rfl rfl dX4_compare_58 ?_
    refine r_iload_n C hl (kx := 2) rfl rfl dX4_compare_59 ?_
    refine r_icmp_le C (tgt := 67) (by decide) dX4_compare_60 (fun c6 => ?_) (fun c6 => ?_)
    · have hf := ite_t c6 hf
      refine r_iconst C dX4_compare_67 ?_
      exact r_iret C hw hf dX4_compare_68
    · have hf := ite_f c6 hf
      refine r_iconst C dX4_compare_63 ?_
      refine r_goto C (tgt := 68) (by decide) dX4_compare_64 ?_
      exact r_iret C hw hf dX4_compare_68
  have hf := ite_f c5 hf
  rcases Decidable.em (nrm x0 = 9) with c7 | c7
  · have hf := ite_t c7 hf
    refine r_tabIn C (tgt := 69) c7 (by decide) (by decide) rfl (by decide) dX4_compare_1 ?_
    refine r_iload_n C hl (kx := 1) rfl rfl dX4_compare_69 ?_
    refine r_iload_n C hl (kx := 2) rfl rfl dX4_compare_70 ?_
    refine r_iand C dX4_compare_71 ?_
    exact r_iret C hw hf dX4_compare_72
  have hf := ite_f c7 hf
  have hdef : W p l e (rm 0) s m args below meth c H locs 0 0 (QM below args s D b (some (.int (jI r))) μ') (F0 m 73 ls []) := by
    refine r_iload_n C hl (kx := 1) rfl rfl dX4_compare_73 ?_
    refine r_iload_n C hl (kx := 2) rfl rfl dX4_compare_74 ?_
    refine r_ior C dX4_compare_75 ?_
    exact r_iret C hw hf dX4_compare_76
  rcases Decidable.em (nrm x0 = 8) with c8 | c8
  · exact r_tabIn C (tgt := 73) c8 (by decide) (by decide) rfl (by decide) dX4_compare_1 hdef
  exact r_tabOut C (tgt := 73) (by omega) (by decide) dX4_compare_1 hdef
theorem c_X4_compare (l : Launch) (D : Ds) (b : Nat) {x0 x1 x2 : Int} {μ μ' : Mem} {r : Int} (hf : f_X4_compare x0 x1 x2 μ = some (r, μ')) : Ctr l D b yX4_compare cX4_compare 3 (some .int) 0 [(0, x0), (0, x1), (0, x2)] μ (some (.int (jI r))) μ' := by
  refine Ctr.of (by decide +kernel) (Nat.le_of_ble_eq_true rfl) ?_
  intro p e s m below meth c C hw ls hl
  exact w_X4_compare_0 C hf hw hl
set_option maxHeartbeats 4000000 in
set_option maxRecDepth 20000 in
theorem w_X4_tell_254 (C : Cx p s m args meth c D b cX4_tell 9 RX4 (some .int)) {r : Int} {μ' : Mem} (k60 : Int → Int → Int → Mem → Option (Int × Mem)) (h60 : ∀ (x0 x3 x4 : Int) (μ : Mem) (H : Heap) (locs : List Loc) (ls : Array Slot), k60 x0 x3 x4 μ = some (r, μ') → isK x0 4 → Hw D b μ s.heap H locs → lvh b ls 9 [(0, 2, x0), (3, 0, x3), (4, 0, x4)] → W p l e (rm 1) s m args below meth c H locs 0 0 (QM below args s D b (some (.int (jI r))) μ') (F0 m 60 ls [])) {x0 x3 x4 : Int} {μ : Mem} {H : Heap} {locs : List Loc} {ls : Array Slot} (hf : f_X4_tell_j254 k60 x0 x3 x4 μ = some (r, μ')) (t0 : isK x0 4) (hw : Hw D b μ s.heap H locs) (hl : lvh b ls 9 [(0, 2, x0), (3, 0, x3), (4, 0, x4)]) : W p l e (rm 1) s m args below meth c H locs 0 0 (QM below args s D b (some (.int (jI r))) μ') (F0 m 254 ls []) := by
  unfold f_X4_tell_j254 at hf
  refine r_iinc C hl (kx := 2) rfl (by decide) (L' := [(4, 0, (x4 + 1)), (0, 2, x0), (3, 0, x3)]) rfl dX4_tell_254 (fun ls hl => ?_)
  refine r_goto C (tgt := 60) (by decide) dX4_tell_257 ?_
  exact h60 _ _ _ _ _ _ _ hf t0 hw (lvh_sub hl [1, 2, 0] rfl)
set_option maxHeartbeats 4000000 in
set_option maxRecDepth 20000 in
theorem w_X4_tell_251 (C : Cx p s m args meth c D b cX4_tell 9 RX4 (some .int)) {r : Int} {μ' : Mem} (k60 : Int → Int → Int → Mem → Option (Int × Mem)) (h60 : ∀ (x0 x3 x4 : Int) (μ : Mem) (H : Heap) (locs : List Loc) (ls : Array Slot), k60 x0 x3 x4 μ = some (r, μ') → isK x0 4 → Hw D b μ s.heap H locs → lvh b ls 9 [(0, 2, x0), (3, 0, x3), (4, 0, x4)] → W p l e (rm 1) s m args below meth c H locs 0 0 (QM below args s D b (some (.int (jI r))) μ') (F0 m 60 ls [])) {x0 x3 x4 s0 s1 : Int} {μ : Mem} {H : Heap} {locs : List Loc} {ls : Array Slot} (hf : f_X4_tell_j251 k60 x0 x3 x4 s0 s1 μ = some (r, μ')) (t0 : isK x0 4) (hw : Hw D b μ s.heap H locs) (hl : lvh b ls 9 [(0, 2, x0), (3, 0, x3), (4, 0, x4)]) : W p l e (rm 1) s m args below meth c H locs 0 0 (QM below args s D b (some (.int (jI r))) μ') (F0 m 251 ls [.int (jI s1), rfv b s0]) := by
  unfold f_X4_tell_j251 at hf
  obtain ⟨g1, hf⟩ := gd_some hf
  obtain ⟨r3, μ2, e4, hf⟩ := bn_some hf
  refine r_callVn C hw (K := [(0, s1)]) ok4 g1 (c_X4_push l D b g1 e4) mi_X4_push in_X4_push se_X4_push kl_4_49 rfl rfl (lvh_sz hl) (by decide) (Kr := []) rfl (Nat.le_of_ble_eq_true rfl) dX4_tell_251 (fun H locs hw => ?_)
  exact w_X4_tell_254 C _ h60 hf t0 hw (lvh_sub hl [0, 1, 2] rfl)
set_option maxHeartbeats 4000000 in
set_option maxRecDepth 20000 in
theorem w_X4_tell_205 (C : Cx p s m args meth c D b cX4_tell 9 RX4 (some .int)) {r : Int} {μ' : Mem} (k60 : Int → Int → Int → Mem → Option (Int × Mem)) (h60 : ∀ (x0 x3 x4 : Int) (μ : Mem) (H : Heap) (locs : List Loc) (ls : Array Slot), k60 x0 x3 x4 μ = some (r, μ') → isK x0 4 → Hw D b μ s.heap H locs → lvh b ls 9 [(0, 2, x0), (3, 0, x3), (4, 0, x4)] → W p l e (rm 1) s m args below meth c H locs 0 0 (QM below args s D b (some (.int (jI r))) μ') (F0 m 60 ls [])) {x0 x3 x4 s0 s1 : Int} {μ : Mem} {H : Heap} {locs : List Loc} {ls : Array Slot} (hf : f_X4_tell_j205 k60 x0 x3 x4 s0 s1 μ = some (r, μ')) (t0 : isK x0 4) (hw : Hw D b μ s.heap H locs) (hl : lvh b ls 9 [(0, 2, x0), (3, 0, x3), (4, 0, x4)]) : W p l e (rm 1) s m args below meth c H locs 0 0 (QM below args s D b (some (.int (jI r))) μ') (F0 m 205 ls [.int (jI s1), rfv b s0]) := by
  unfold f_X4_tell_j205 at hf
  obtain ⟨g1, hf⟩ := gd_some hf
  obtain ⟨r3, μ2, e4, hf⟩ := bn_some hf
  refine r_callVn C hw (K := [(0, s1)]) ok4 g1 (c_X4_push l D b g1 e4) mi_X4_push in_X4_push se_X4_push kl_4_49 rfl rfl (lvh_sz hl) (by decide) (Kr := []) rfl (Nat.le_of_ble_eq_true rfl) dX4_tell_205 (fun H locs hw => ?_)
  refine r_goto C (tgt := 254) (by decide) dX4_tell_208 ?_
  exact w_X4_tell_254 C _ h60 hf t0 hw (lvh_sub hl [0, 1, 2] rfl)
set_option maxHeartbeats 4000000 in
set_option maxRecDepth 20000 in
theorem w_X4_tell_165 (C : Cx p s m args meth c D b cX4_tell 9 RX4 (some .int)) {r : Int} {μ' : Mem} (k60 : Int → Int → Int → Mem → Option (Int × Mem)) (h60 : ∀ (x0 x3 x4 : Int) (μ : Mem) (H : Heap) (locs : List Loc) (ls : Array Slot), k60 x0 x3 x4 μ = some (r, μ') → isK x0 4 → Hw D b μ s.heap H locs → lvh b ls 9 [(0, 2, x0), (3, 0, x3), (4, 0, x4)] → W p l e (rm 1) s m args below meth c H locs 0 0 (QM below args s D b (some (.int (jI r))) μ') (F0 m 60 ls [])) {x0 x3 x4 s0 s1 : Int} {μ : Mem} {H : Heap} {locs : List Loc} {ls : Array Slot} (hf : f_X4_tell_j165 k60 x0 x3 x4 s0 s1 μ = some (r, μ')) (t0 : isK x0 4) (hw : Hw D b μ s.heap H locs) (hl : lvh b ls 9 [(0, 2, x0), (3, 0, x3), (4, 0, x4)]) : W p l e (rm 1) s m args below meth c H locs 0 0 (QM below args s D b (some (.int (jI r))) μ') (F0 m 165 ls [.int (jI s1), rfv b s0]) := by
  unfold f_X4_tell_j165 at hf
  obtain ⟨g1, hf⟩ := gd_some hf
  obtain ⟨r3, μ2, e4, hf⟩ := bn_some hf
  refine r_callVn C hw (K := [(0, s1)]) ok4 g1 (c_X4_push l D b g1 e4) mi_X4_push in_X4_push se_X4_push kl_4_49 rfl rfl (lvh_sz hl) (by decide) (Kr := []) rfl (Nat.le_of_ble_eq_true rfl) dX4_tell_165 (fun H locs hw => ?_)
  refine r_goto C (tgt := 254) (by decide) dX4_tell_168 ?_
  exact w_X4_tell_254 C _ h60 hf t0 hw (lvh_sub hl [0, 1, 2] rfl)
set_option maxHeartbeats 4000000 in
set_option maxRecDepth 20000 in
theorem w_X4_tell_139 (C : Cx p s m args meth c D b cX4_tell 9 RX4 (some .int)) {r : Int} {μ' : Mem} (k60 : Int → Int → Int → Mem → Option (Int × Mem)) (h60 : ∀ (x0 x3 x4 : Int) (μ : Mem) (H : Heap) (locs : List Loc) (ls : Array Slot), k60 x0 x3 x4 μ = some (r, μ') → isK x0 4 → Hw D b μ s.heap H locs → lvh b ls 9 [(0, 2, x0), (3, 0, x3), (4, 0, x4)] → W p l e (rm 1) s m args below meth c H locs 0 0 (QM below args s D b (some (.int (jI r))) μ') (F0 m 60 ls [])) {x0 x3 x4 s0 s1 : Int} {μ : Mem} {H : Heap} {locs : List Loc} {ls : Array Slot} (hf : f_X4_tell_j139 k60 x0 x3 x4 s0 s1 μ = some (r, μ')) (t0 : isK x0 4) (hw : Hw D b μ s.heap H locs) (hl : lvh b ls 9 [(0, 2, x0), (3, 0, x3), (4, 0, x4)]) : W p l e (rm 1) s m args below meth c H locs 0 0 (QM below args s D b (some (.int (jI r))) μ') (F0 m 139 ls [.int (jI s1), rfv b s0]) := by
  unfold f_X4_tell_j139 at hf
  obtain ⟨g1, hf⟩ := gd_some hf
  obtain ⟨r3, μ2, e4, hf⟩ := bn_some hf
  refine r_callVn C hw (K := [(0, s1)]) ok4 g1 (c_X4_push l D b g1 e4) mi_X4_push in_X4_push se_X4_push kl_4_49 rfl rfl (lvh_sz hl) (by decide) (Kr := []) rfl (Nat.le_of_ble_eq_true rfl) dX4_tell_139 (fun H locs hw => ?_)
  refine r_goto C (tgt := 254) (by decide) dX4_tell_142 ?_
  exact w_X4_tell_254 C _ h60 hf t0 hw (lvh_sub hl [0, 1, 2] rfl)
set_option maxHeartbeats 4000000 in
set_option maxRecDepth 20000 in
theorem w_X4_tell_138 (C : Cx p s m args meth c D b cX4_tell 9 RX4 (some .int)) {r : Int} {μ' : Mem} (k60 : Int → Int → Int → Mem → Option (Int × Mem)) (h60 : ∀ (x0 x3 x4 : Int) (μ : Mem) (H : Heap) (locs : List Loc) (ls : Array Slot), k60 x0 x3 x4 μ = some (r, μ') → isK x0 4 → Hw D b μ s.heap H locs → lvh b ls 9 [(0, 2, x0), (3, 0, x3), (4, 0, x4)] → W p l e (rm 1) s m args below meth c H locs 0 0 (QM below args s D b (some (.int (jI r))) μ') (F0 m 60 ls [])) {x0 x3 x4 s0 : Int} {μ : Mem} {H : Heap} {locs : List Loc} {ls : Array Slot} (hf : f_X4_tell_j138 k60 x0 x3 x4 s0 μ = some (r, μ')) (t0 : isK x0 4) (hw : Hw D b μ s.heap H locs) (hl : lvh b ls 9 [(0, 2, x0), (3, 0, x3), (4, 0, x4)]) : W p l e (rm 1) s m args below meth c H locs 0 0 (QM below args s D b (some (.int (jI r))) μ') (F0 m 138 ls [rfv b s0]) := by
  unfold f_X4_tell_j138 at hf
  refine r_iconst C dX4_tell_138 ?_
  exact w_X4_tell_139 C _ h60 hf t0 hw (lvh_sub hl [0, 1, 2] rfl)
set_option maxHeartbeats 4000000 in
set_option maxRecDepth 20000 in
theorem w_X4_tell_60 (C : Cx p s m args meth c D b cX4_tell 9 RX4 (some .int)) {r : Int} {μ' : Mem} : ∀ (n : Nat) (x0 x3 x4 : Int) (μ : Mem) (H : Heap) (locs : List Loc) (ls : Array Slot), f_X4_tell_w60 n x0 x3 x4 μ = some (r, μ') → isK x0 4 → Hw D b μ s.heap H locs → lvh b ls 9 [(0, 2, x0), (3, 0, x3), (4, 0, x4)] → W p l e (rm 1) s m args below meth c H locs 0 0 (QM below args s D b (some (.int (jI r))) μ') (F0 m 60 ls []) := by
  intro n
  induction n with
  | zero => intro x0 x3 x4 μ H locs ls hf; cases hf
  | succ n ih =>
    intro x0 x3 x4 μ H locs ls hf t0 hw hl
    rw [f_X4_tell_w60.eq_2] at hf
    refine r_iload C hl (kx := 2) rfl dX4_tell_60 ?_
    refine r_iload_n C hl (kx := 1) rfl rfl dX4_tell_62 ?_
    refine r_icmp_ge C (tgt := 260) (by decide) dX4_tell_63 (fun c1 => ?_) (fun c1 => ?_)
    · have hf := ite_t c1 hf
      refine r_aload_n C hl (kx := 0) rfl rfl dX4_tell_260 ?_
      obtain ⟨r3, μ2, e4, hf⟩ := bn_some hf
      refine r_callVv C hw (K := []) ok4 t0 (c_X4_pop l D b t0 e4) mi_X4_pop in_X4_pop se_X4_pop kl_4_53 rfl rfl (lvh_sz hl) (by decide) (Kr := []) rfl (Nat.le_of_ble_eq_true rfl) dX4_tell_261 (fun H locs hw => ?_)
      exact r_iret C hw hf dX4_tell_264
    · have hf := ite_f c1 hf
      refine r_aload_n C hl (kx := 0) rfl rfl dX4_tell_66 ?_
      refine gf_4_9 C hw t0 dX4_tell_67 ?_
      refine r_iload C hl (kx := 2) rfl dX4_tell_70 ?_
      obtain ⟨g5, hf⟩ := gd_some hf
      refine r_iald C hw (n := 900) (ow_4_0 t0) (j := (nrm x4)) rfl g5 (by decide) dX4_tell_72 ?_
      refine r_sipush C (by decide) dX4_tell_73 ?_
      refine r_idiv C (by decide) dX4_tell_76 ?_
      obtain ⟨v6, e7, hf⟩ := nm_some hf
      refine top_i e7 ?_
      refine r_istore C hl (by decide) (L' := [(5, 0, v6), (0, 2, x0), (3, 0, x3), (4, 0, x4)]) rfl dX4_tell_77 (fun ls hl => ?_)
      refine r_aload_n C hl (kx := 1) rfl rfl dX4_tell_79 ?_
      refine gf_4_9 C hw t0 dX4_tell_80 ?_
      refine r_iload C hl (kx := 3) rfl dX4_tell_83 ?_
      obtain ⟨g8, hf⟩ := gd_some hf
      refine r_iald C hw (n := 900) (ow_4_0 t0) (j := (nrm x4)) rfl g8 (by decide) dX4_tell_85 ?_
      refine r_sipush C (by decide) dX4_tell_86 ?_
      refine r_irem C (by decide) dX4_tell_89 ?_
      obtain ⟨v9, e10, hf⟩ := nm_some hf
      refine top_i e10 ?_
      refine r_istore C hl (by decide) (L' := [(6, 0, v9), (5, 0, v6), (0, 2, x0), (3, 0, x3), (4, 0, x4)]) rfl dX4_tell_90 (fun ls hl => ?_)
      refine r_iload C hl (kx := 1) rfl dX4_tell_92 ?_
      refine r_if_ne C (tgt := 106) (by decide) dX4_tell_94 (fun c11 => ?_) (fun c11 => ?_)
      · have hf := ite_f c11 hf
        refine r_iload C hl (kx := 1) rfl dX4_tell_106 ?_
        refine r_iconst C dX4_tell_108 ?_
        refine r_icmp_ne C (tgt := 145) (by decide) dX4_tell_109 (fun c12 => ?_) (fun c12 => ?_)
        · have hf := ite_f c12 hf
          refine r_iload C hl (kx := 1) rfl dX4_tell_145 ?_
          refine r_bipush C (by decide) dX4_tell_147 ?_
          refine r_icmp_ne C (tgt := 171) (by decide) dX4_tell_149 (fun c13 => ?_) (fun c13 => ?_)
          · have hf := ite_f c13 hf
            refine r_iload C hl (kx := 1) rfl dX4_tell_171 ?_
            refine r_bipush C (by decide) dX4_tell_173 ?_
            refine r_icmp_ne C (tgt := 211) (by decide) dX4_tell_175 (fun c14 => ?_) (fun c14 => ?_)
            · have hf := ite_f c14 hf
              refine r_aload_n C hl (kx := 2) rfl rfl dX4_tell_211 ?_
              obtain ⟨r16, μ15, e17, hf⟩ := bn_some hf
              refine r_callVv C hw (K := []) ok4 t0 (c_X4_pop l D b t0 e17) mi_X4_pop in_X4_pop se_X4_pop kl_4_53 rfl rfl (lvh_sz hl) (by decide) (Kr := []) rfl (Nat.le_of_ble_eq_true rfl) dX4_tell_212 (fun H locs hw => ?_)
              refine r_istore C hl (by decide) (L' := [(7, 0, r16), (6, 0, v9), (5, 0, v6), (0, 2, x0), (3, 0, x3), (4, 0, x4)]) rfl dX4_tell_215 (fun ls hl => ?_)
              refine r_aload_n C hl (kx := 3) rfl rfl dX4_tell_217 ?_
              obtain ⟨r19, μ18, e20, hf⟩ := bn_some hf
              refine r_callVv C hw (K := []) ok4 t0 (c_X4_pop l D b t0 e20) mi_X4_pop in_X4_pop se_X4_pop kl_4_53 rfl rfl (lvh_sz hl) (by decide) (Kr := []) rfl (Nat.le_of_ble_eq_true rfl) dX4_tell_218 (fun H locs hw => ?_)
              refine r_istore C hl (by decide) (L' := [(8, 0, r19), (7, 0, r16), (6, 0, v9), (5, 0, v6), (0, 2, x0), (3, 0, x3), (4, 0, x4)]) rfl dX4_tell_221 (fun ls hl => ?_)
              refine r_aload_n C hl (kx := 4) rfl rfl dX4_tell_223 ?_
              refine r_iload C hl (kx := 3) rfl dX4_tell_224 ?_
              refine r_iconst C dX4_tell_226 ?_
              refine r_icmp_ge C (tgt := 242) (by decide) dX4_tell_227 (fun c21 => ?_) (fun c21 => ?_)
              · have hf := ite_t c21 hf
                refine r_iload C hl (kx := 3) rfl dX4_tell_242 ?_
                refine r_iload C hl (kx := 0) rfl dX4_tell_244 ?_
                refine r_iload C hl (kx := 1) rfl dX4_tell_246 ?_
                obtain ⟨r23, μ22, e24, hf⟩ := bn_some hf
                refine r_callSv C hw (K := [(0, v6), (0, r19), (0, r16)]) (c_X4_compare l D b e24) mi_X4_compare st_X4_compare kl_4_61 rfl rfl (lvh_sz hl) (by decide) (Kr := [(2, x0)]) rfl (Nat.le_of_ble_eq_true rfl) dX4_tell_248 (fun H locs hw => ?_)
                exact w_X4_tell_251 C _ ih hf t0 hw (lvh_sub hl [4, 5, 6] rfl)
              · have hf := ite_f c21 hf
                refine r_iload C hl (kx := 3) rfl dX4_tell_230 ?_
                refine r_iload C hl (kx := 0) rfl dX4_tell_232 ?_
                refine r_iload C hl (kx := 1) rfl dX4_tell_234 ?_
                obtain ⟨r26, μ25, e27, hf⟩ := bn_some hf
                refine r_callSv C hw (K := [(0, v6), (0, r19), (0, r16)]) (c_X4_reckon l D b e27) mi_X4_reckon st_X4_reckon kl_4_57 rfl rfl (lvh_sz hl) (by decide) (Kr := [(2, x0)]) rfl (Nat.le_of_ble_eq_true rfl) dX4_tell_236 (fun H locs hw => ?_)
                refine r_goto C (tgt := 251) (by decide) dX4_tell_239 ?_
                exact w_X4_tell_251 C _ ih hf t0 hw (lvh_sub hl [4, 5, 6] rfl)
            · have hf := ite_t c14 hf
              refine r_aload_n C hl (kx := 2) rfl rfl dX4_tell_178 ?_
              obtain ⟨r29, μ28, e30, hf⟩ := bn_some hf
              refine r_callVv C hw (K := []) ok4 t0 (c_X4_pop l D b t0 e30) mi_X4_pop in_X4_pop se_X4_pop kl_4_53 rfl rfl (lvh_sz hl) (by decide) (Kr := []) rfl (Nat.le_of_ble_eq_true rfl) dX4_tell_179 (fun H locs hw => ?_)
              refine r_istore C hl (by decide) (L' := [(7, 0, r29), (6, 0, v9), (5, 0, v6), (0, 2, x0), (3, 0, x3), (4, 0, x4)]) rfl dX4_tell_182 (fun ls hl => ?_)
              refine r_aload_n C hl (kx := 3) rfl rfl dX4_tell_184 ?_
              obtain ⟨r32, μ31, e33, hf⟩ := bn_some hf
              refine r_callVv C hw (K := []) ok4 t0 (c_X4_pop l D b t0 e33) mi_X4_pop in_X4_pop se_X4_pop kl_4_53 rfl rfl (lvh_sz hl) (by decide) (Kr := []) rfl (Nat.le_of_ble_eq_true rfl) dX4_tell_185 (fun H locs hw => ?_)
              refine r_istore C hl (by decide) (L' := [(8, 0, r32), (7, 0, r29), (6, 0, v9), (5, 0, v6), (0, 2, x0), (3, 0, x3), (4, 0, x4)]) rfl dX4_tell_188 (fun ls hl => ?_)
              refine r_aload_n C hl (kx := 4) rfl rfl dX4_tell_190 ?_
              refine r_aload_n C hl (kx := 4) rfl rfl dX4_tell_191 ?_
              obtain ⟨r35, μ34, e36, hf⟩ := bn_some hf
              refine r_callVv C hw (K := []) ok4 t0 (c_X4_pop l D b t0 e36) mi_X4_pop in_X4_pop se_X4_pop kl_4_53 rfl rfl (lvh_sz hl) (by decide) (Kr := [(2, x0)]) rfl (Nat.le_of_ble_eq_true rfl) dX4_tell_192 (fun H locs hw => ?_)
              refine r_if_eq C (tgt := 203) (by decide) dX4_tell_195 (fun c37 => ?_) (fun c37 => ?_)
              · have hf := ite_t c37 hf
                refine r_iload C hl (kx := 1) rfl dX4_tell_203 ?_
                exact w_X4_tell_205 C _ ih hf t0 hw (lvh_sub hl [4, 5, 6] rfl)
              · have hf := ite_f c37 hf
                refine r_iload C hl (kx := 0) rfl dX4_tell_198 ?_
                refine r_goto C (tgt := 205) (by decide) dX4_tell_200 ?_
                exact w_X4_tell_205 C _ ih hf t0 hw (lvh_sub hl [4, 5, 6] rfl)
          · have hf := ite_t c13 hf
            refine r_aload_n C hl (kx := 2) rfl rfl dX4_tell_152 ?_
            refine r_aload_n C hl (kx := 2) rfl rfl dX4_tell_153 ?_
            obtain ⟨r39, μ38, e40, hf⟩ := bn_some hf
            refine r_callVv C hw (K := []) ok4 t0 (c_X4_pop l D b t0 e40) mi_X4_pop in_X4_pop se_X4_pop kl_4_53 rfl rfl (lvh_sz hl) (by decide) (Kr := [(2, x0)]) rfl (Nat.le_of_ble_eq_true rfl) dX4_tell_154 (fun H locs hw => ?_)
            refine r_if_ne C (tgt := 164) (by decide) dX4_tell_157 (fun c41 => ?_) (fun c41 => ?_)
            · have hf := ite_f c41 hf
              refine r_iconst C dX4_tell_164 ?_
              exact w_X4_tell_165 C _ ih hf t0 hw (lvh_sub hl [2, 3, 4] rfl)
            · have hf := ite_t c41 hf
              refine r_iconst C dX4_tell_160 ?_
              refine r_goto C (tgt := 165) (by decide) dX4_tell_161 ?_
              exact w_X4_tell_165 C _ ih hf t0 hw (lvh_sub hl [2, 3, 4] rfl)
        · have hf := ite_t c12 hf
          refine r_aload_n C hl (kx := 2) rfl rfl dX4_tell_112 ?_
          refine r_iload C hl (kx := 0) rfl dX4_tell_113 ?_
          refine r_if_lt C (tgt := 138) (by decide) dX4_tell_115 (fun c42 => ?_) (fun c42 => ?_)
          · have hf := ite_t c42 hf
            exact w_X4_tell_138 C _ ih hf t0 hw (lvh_sub hl [2, 3, 4] rfl)
          · have hf := ite_f c42 hf
            refine r_iload C hl (kx := 0) rfl dX4_tell_118 ?_
            refine r_aload_n C hl (kx := 2) rfl rfl dX4_tell_120 ?_
            refine gf_4_21 C hw t0 dX4_tell_121 ?_
            refine r_alen1 C hw (n := 6) (ow_4_4 t0) (by decide) (z := 6) rfl dX4_tell_124 ?_
            refine r_icmp_ge C (tgt := 138) (by decide) dX4_tell_125 (fun c43 => ?_) (fun c43 => ?_)
            · have hf := ite_t c43 hf
              exact w_X4_tell_138 C _ ih hf t0 hw (lvh_sub hl [2, 3, 4] rfl)
            · have hf := ite_f c43 hf
              refine r_aload_n C hl (kx := 2) rfl rfl dX4_tell_128 ?_
              refine gf_4_21 C hw t0 dX4_tell_129 ?_
              refine r_iload C hl (kx := 0) rfl dX4_tell_132 ?_
              obtain ⟨g44, hf⟩ := gd_some hf
              refine r_iald C hw (n := 6) (ow_4_4 t0) (j := (nrm v9)) rfl g44 (by decide) dX4_tell_134 ?_
              refine r_goto C (tgt := 139) (by decide) dX4_tell_135 ?_
              exact w_X4_tell_139 C _ ih hf t0 hw (lvh_sub hl [2, 3, 4] rfl)
      · have hf := ite_t c11 hf
        refine r_aload_n C hl (kx := 2) rfl rfl dX4_tell_97 ?_
        refine r_iload C hl (kx := 0) rfl dX4_tell_98 ?_
        obtain ⟨r46, μ45, e47, hf⟩ := bn_some hf
        refine r_callVn C hw (K := [(0, v9)]) ok4 t0 (c_X4_push l D b t0 e47) mi_X4_push in_X4_push se_X4_push kl_4_49 rfl rfl (lvh_sz hl) (by decide) (Kr := []) rfl (Nat.le_of_ble_eq_true rfl) dX4_tell_100 (fun H locs hw => ?_)
        refine r_goto C (tgt := 254) (by decide) dX4_tell_103 ?_
        exact w_X4_tell_254 C _ ih hf t0 hw (lvh_sub hl [2, 3, 4] rfl)
set_option maxHeartbeats 4000000 in
set_option maxRecDepth 20000 in
theorem w_X4_tell_56 (C : Cx p s m args meth c D b cX4_tell 9 RX4 (some .int)) {r : Int} {μ' : Mem} {x0 x2 s0 : Int} {μ : Mem} {H : Heap} {locs : List Loc} {ls : Array Slot} (hf : f_X4_tell_j56 x0 x2 s0 μ = some (r, μ')) (t0 : isK x0 4) (hw : Hw D b μ s.heap H locs) (hl : lvh b ls 9 [(0, 2, x0), (2, 0, x2)]) : W p l e (rm 1) s m args below meth c H locs 0 0 (QM below args s D b (some (.int (jI r))) μ') (F0 m 56 ls [.int (jI s0)]) := by
  unfold f_X4_tell_j56 at hf
  refine r_istore_n C hl (by decide) (L' := [(3, 0, s0), (0, 2, x0), (2, 0, x2)]) rfl rfl dX4_tell_56 (fun ls hl => ?_)
  refine r_iload_n C hl (kx := 2) rfl rfl dX4_tell_57 ?_
  refine r_istore C hl (by decide) (L' := [(4, 0, x2), (3, 0, s0), (0, 2, x0), (2, 0, x2)]) rfl dX4_tell_58 (fun ls hl => ?_)
  exact w_X4_tell_60 C FU _ _ _ _ _ _ _ hf t0 hw (lvh_sub hl [2, 1, 0] rfl)
set_option maxHeartbeats 4000000 in
set_option maxRecDepth 20000 in
theorem w_X4_tell_38 (C : Cx p s m args meth c D b cX4_tell 9 RX4 (some .int)) {r : Int} {μ' : Mem} {x0 x2 : Int} {μ : Mem} {H : Heap} {locs : List Loc} {ls : Array Slot} (hf : f_X4_tell_j38 x0 x2 μ = some (r, μ')) (t0 : isK x0 4) (hw : Hw D b μ s.heap H locs) (hl : lvh b ls 9 [(0, 2, x0), (2, 0, x2)]) : W p l e (rm 1) s m args below meth c H locs 0 0 (QM below args s D b (some (.int (jI r))) μ') (F0 m 38 ls []) := by
  unfold f_X4_tell_j38 at hf
  refine r_iconst C dX4_tell_38 ?_
  refine r_goto C (tgt := 56) (by decide) dX4_tell_39 ?_
  exact w_X4_tell_56 C hf t0 hw (lvh_sub hl [0, 1] rfl)
set_option maxHeartbeats 4000000 in
set_option maxRecDepth 20000 in
theorem w_X4_tell_28 (C : Cx p s m args meth c D b cX4_tell 9 RX4 (some .int)) {r : Int} {μ' : Mem} {x0 x1 s0 : Int} {μ : Mem} {H : Heap} {locs : List Loc} {ls : Array Slot} (hf : f_X4_tell_j28 x0 x1 s0 μ = some (r, μ')) (t0 : isK x0 4) (hw : Hw D b μ s.heap H locs) (hl : lvh b ls 9 [(0, 2, x0), (1, 0, x1)]) : W p l e (rm 1) s m args below meth c H locs 0 0 (QM below args s D b (some (.int (jI r))) μ') (F0 m 28 ls [.int (jI s0)]) := by
  unfold f_X4_tell_j28 at hf
  refine r_istore_n C hl (by decide) (L' := [(2, 0, s0), (0, 2, x0), (1, 0, x1)]) rfl rfl dX4_tell_28 (fun ls hl => ?_)
  refine r_iload_n C hl (kx := 2) rfl rfl dX4_tell_29 ?_
  refine r_if_lt C (tgt := 38) (by decide) dX4_tell_30 (fun c1 => ?_) (fun c1 => ?_)
  · have hf := ite_t c1 hf
    exact w_X4_tell_38 C hf t0 hw (lvh_sub hl [1, 0] rfl)
  · have hf := ite_f c1 hf
    refine r_iload_n C hl (kx := 2) rfl rfl dX4_tell_33 ?_
    refine r_iconst C dX4_tell_34 ?_
    refine r_icmp_lt C (tgt := 42) (by decide) dX4_tell_35 (fun c2 => ?_) (fun c2 => ?_)
    · have hf := ite_t c2 hf
      refine r_aload_n C hl (kx := 1) rfl rfl dX4_tell_42 ?_
      refine gf_4_9 C hw t0 dX4_tell_43 ?_
      refine r_alen1 C hw (n := 900) (ow_4_0 t0) (by decide) (z := 900) rfl dX4_tell_46 ?_
      refine r_aload_n C hl (kx := 1) rfl rfl dX4_tell_47 ?_
      refine gf_4_18 C hw t0 dX4_tell_48 ?_
      refine r_iload_n C hl (kx := 2) rfl rfl dX4_tell_51 ?_
      obtain ⟨g3, hf⟩ := gd_some hf
      refine r_iald C hw (n := 2) (ow_4_3 t0) (j := (nrm x1)) rfl g3 (by decide) dX4_tell_52 ?_
      obtain ⟨r5, μ4, e6, hf⟩ := bn_some hf
      refine r_callSv C hw (K := [(0, 900), (0, (μ (x0 + 3) (nrm x1)))]) (c_J9_min_7cf53 l D b e6) mi_J9_min_7cf53 st_J9_min_7cf53 kl_4_46 rfl rfl (lvh_sz hl) (by decide) (Kr := []) rfl (Nat.le_of_ble_eq_true rfl) dX4_tell_53 (fun H locs hw => ?_)
      exact w_X4_tell_56 C hf t0 hw (lvh_sub hl [1, 0] rfl)
    · have hf := ite_f c2 hf
      exact w_X4_tell_38 C hf t0 hw (lvh_sub hl [1, 0] rfl)
set_option maxHeartbeats 4000000 in
set_option maxRecDepth 20000 in
theorem w_X4_tell_14 (C : Cx p s m args meth c D b cX4_tell 9 RX4 (some .int)) {r : Int} {μ' : Mem} {x0 x1 : Int} {μ : Mem} {H : Heap} {locs : List Loc} {ls : Array Slot} (hf : f_X4_tell_j14 x0 x1 μ = some (r, μ')) (t0 : isK x0 4) (hw : Hw D b μ s.heap H locs) (hl : lvh b ls 9 [(0, 2, x0), (1, 0, x1)]) : W p l e (rm 1) s m args below meth c H locs 0 0 (QM below args s D b (some (.int (jI r))) μ') (F0 m 14 ls []) := by
  unfold f_X4_tell_j14 at hf
  refine r_iconst C dX4_tell_14 ?_
  refine r_goto C (tgt := 28) (by decide) dX4_tell_15 ?_
  exact w_X4_tell_28 C hf t0 hw (lvh_sub hl [0, 1] rfl)
set_option maxHeartbeats 4000000 in
set_option maxRecDepth 20000 in
theorem w_X4_tell_0 (C : Cx p s m args meth c D b cX4_tell 9 RX4 (some .int)) {r : Int} {μ' : Mem} {x0 x1 : Int} {μ : Mem} {H : Heap} {locs : List Loc} {ls : Array Slot} (hf : f_X4_tell x0 x1 μ = some (r, μ')) (t0 : isK x0 4) (hw : Hw D b μ s.heap H locs) (hl : lvh b ls 9 [(0, 2, x0), (1, 0, x1)]) : W p l e (rm 1) s m args below meth c H locs 0 0 (QM below args s D b (some (.int (jI r))) μ') (F0 m 0 ls []) := by
  unfold f_X4_tell at hf
  refine r_aload_n C hl (kx := 0) rfl rfl dX4_tell_0 ?_
  refine r_iconst C dX4_tell_1 ?_
  obtain ⟨μ1, e2, hf⟩ := nm_some hf
  refine pf_4_37 C hw t0 dX4_tell_2 (fun H locs hw => ?_)
  rw [← e2] at hw
  refine r_iload_n C hl (kx := 1) rfl rfl dX4_tell_5 ?_
  refine r_if_lt C (tgt := 14) (by decide) dX4_tell_6 (fun c3 => ?_) (fun c3 => ?_)
  · have hf := ite_t c3 hf
    exact w_X4_tell_14 C hf t0 hw (lvh_sub hl [0, 1] rfl)
  · have hf := ite_f c3 hf
    refine r_iload_n C hl (kx := 1) rfl rfl dX4_tell_9 ?_
    refine r_iconst C dX4_tell_10 ?_
    refine r_icmp_lt C (tgt := 18) (by decide) dX4_tell_11 (fun c4 => ?_) (fun c4 => ?_)
    · have hf := ite_t c4 hf
      refine r_iconst C dX4_tell_18 ?_
      refine r_aload_n C hl (kx := 0) rfl rfl dX4_tell_19 ?_
      refine gf_4_15 C hw t0 dX4_tell_20 ?_
      refine r_iload_n C hl (kx := 1) rfl rfl dX4_tell_23 ?_
      obtain ⟨g5, hf⟩ := gd_some hf
      refine r_iald C hw (n := 2) (ow_4_2 t0) (j := (nrm x1)) rfl g5 (by decide) dX4_tell_24 ?_
      obtain ⟨r7, μ6, e8, hf⟩ := bn_some hf
      refine r_callSv C hw (K := [(0, 0), (0, (μ1 (x0 + 2) (nrm x1)))]) (c_J9_max_7cf53 l D b e8) mi_J9_max_7cf53 st_J9_max_7cf53 kl_4_40 rfl rfl (lvh_sz hl) (by decide) (Kr := []) rfl (Nat.le_of_ble_eq_true rfl) dX4_tell_25 (fun H locs hw => ?_)
      exact w_X4_tell_28 C hf t0 hw (lvh_sub hl [0, 1] rfl)
    · have hf := ite_f c4 hf
      exact w_X4_tell_14 C hf t0 hw (lvh_sub hl [0, 1] rfl)
theorem c_X4_tell (l : Launch) (D : Ds) (b : Nat) {x0 x1 : Int} {μ μ' : Mem} {r : Int} (t0 : isK x0 4) (hf : f_X4_tell x0 x1 μ = some (r, μ')) : Ctr l D b yX4_tell cX4_tell 9 (some .int) 1 [(2, x0), (0, x1)] μ (some (.int (jI r))) μ' := by
  refine Ctr.of (by decide +kernel) (Nat.le_of_ble_eq_true rfl) ?_
  intro p e s m below meth c C hw ls hl
  exact w_X4_tell_0 C hf t0 hw hl
set_option maxHeartbeats 4000000 in
set_option maxRecDepth 20000 in
theorem w_X3_mayGo_0 (C : Cx p s m args meth c D b cX3_mayGo 4 RX3 (some .boolean)) {r : Int} {μ' : Mem} {x0 x1 x2 x3 : Int} {μ : Mem} {H : Heap} {locs : List Loc} {ls : Array Slot} (hf : f_X3_mayGo x0 x1 x2 x3 μ = some (r, μ')) (t0 : isK x0 3) (hw : Hw D b μ s.heap H locs) (hl : lvh b ls 4 [(0, 2, x0), (1, 0, x1), (2, 0, x2), (3, 2, x3)]) : W p l e (rm 2) s m args below meth c H locs 0 0 (QM below args s D b (some (.int (jI r))) μ') (F0 m 0 ls []) := by
  unfold f_X3_mayGo at hf
  refine r_aload_n C hl (kx := 0) rfl rfl dX3_mayGo_0 ?_
  refine r_iload_n C hl (kx := 1) rfl rfl dX3_mayGo_1 ?_
  obtain ⟨r2, μ1, e3, hf⟩ := bn_some hf
  refine r_callVv C hw (K := [(0, x1)]) ok3 t0 (c_X3_hasLane l D b t0 e3) mi_X3_hasLane in_X3_hasLane se_X3_hasLane kl_3_71 rfl rfl (lvh_sz hl) (by decide) (Kr := []) rfl (Nat.le_of_ble_eq_true rfl) dX3_mayGo_2 (fun H locs hw => ?_)
  refine r_if_ne C (tgt := 10) (by decide) dX3_mayGo_5 (fun c4 => ?_) (fun c4 => ?_)
  · have hf := ite_f c4 hf
    refine r_aload_n C hl (kx := 0) rfl rfl dX3_mayGo_10 ?_
    refine gf_3_33 C hw t0 dX3_mayGo_11 ?_
    refine r_iconst C dX3_mayGo_14 ?_
    obtain ⟨r6, μ5, e7, hf⟩ := bn_some hf
    refine r_callVv C hw (K := [(0, 1)]) ok4 (ow_3_14 t0) (c_X4_hasLaw l D b (ow_3_14 t0) e7) mi_X4_hasLaw in_X4_hasLaw se_X4_hasLaw kl_3_75 rfl rfl (lvh_sz hl) (by decide) (Kr := []) rfl (Nat.le_of_ble_eq_true rfl) dX3_mayGo_15 (fun H locs hw => ?_)
    refine r_if_ne C (tgt := 35) (by decide) dX3_mayGo_18 (fun c8 => ?_) (fun c8 => ?_)
    · have hf := ite_f c8 hf
      refine r_aload_n C hl (kx := 0) rfl rfl dX3_mayGo_35 ?_
      refine gf_3_33 C hw t0 dX3_mayGo_36 ?_
      refine r_iload_n C hl (kx := 1) rfl rfl dX3_mayGo_39 ?_
      refine r_iload_n C hl (kx := 2) rfl rfl dX3_mayGo_40 ?_
      refine r_aload_n C hl (kx := 0) rfl rfl dX3_mayGo_41 ?_
      refine gf_3_21 C hw t0 dX3_mayGo_42 ?_
      refine r_iload_n C hl (kx := 1) rfl rfl dX3_mayGo_45 ?_
      obtain ⟨g9, hf⟩ := gd_some hf
      refine r_iald C hw (n := 9) (ow_3_11 t0) (j := (nrm x1)) rfl g9 (by decide) dX3_mayGo_46 ?_
      refine r_aload_n C hl (kx := 0) rfl rfl dX3_mayGo_47 ?_
      refine gf_3_53 C hw t0 dX3_mayGo_48 ?_
      refine r_aload_n C hl (kx := 3) rfl rfl dX3_mayGo_51 ?_
      obtain ⟨g10, hf⟩ := gd_some hf
      refine gf_3_78 C hw g10 dX3_mayGo_52 ?_
      refine r_aload_n C hl (kx := 3) rfl rfl dX3_mayGo_55 ?_
      refine gf_3_81 C hw g10 dX3_mayGo_56 ?_
      obtain ⟨r12, μ11, e13, hf⟩ := bn_some hf
      refine r_callSv C hw (K := [(0, (μ5 x3 3))]) (c_J6_bitCount_0f7a4 l D b e13) mi_J6_bitCount_0f7a4 st_J6_bitCount_0f7a4 kl_3_82 rfl rfl (lvh_sz hl) (by decide) (Kr := [(0, (μ5 x3 2)), (0, (μ5 x0 5)), (0, (μ5 (x0 + 4) (nrm x1))), (0, x2), (0, x1), (2, (x0 + 7))]) rfl (Nat.le_of_ble_eq_true rfl) dX3_mayGo_59 (fun H locs hw => ?_)
      obtain ⟨r15, μ14, e16, hf⟩ := bn_some hf
      refine r_callVn C hw (K := [(0, x1), (0, x2), (0, (μ5 (x0 + 4) (nrm x1))), (0, (μ5 x0 5)), (0, (μ5 x3 2)), (0, r12)]) ok4 (ow_3_14 t0) (c_X4_look l D b (ow_3_14 t0) e16) mi_X4_look in_X4_look se_X4_look kl_3_88 rfl rfl (lvh_sz hl) (by decide) (Kr := []) rfl (Nat.le_of_ble_eq_true rfl) dX3_mayGo_62 (fun H locs hw => ?_)
      refine r_aload_n C hl (kx := 0) rfl rfl dX3_mayGo_65 ?_
      refine gf_3_33 C hw t0 dX3_mayGo_66 ?_
      refine r_iconst C dX3_mayGo_69 ?_
      obtain ⟨r18, μ17, e19, hf⟩ := bn_some hf
      refine r_callVv C hw (K := [(0, 1)]) ok4 (ow_3_14 t0) (c_X4_tell l D b (ow_3_14 t0) e19) mi_X4_tell in_X4_tell se_X4_tell kl_3_92 rfl rfl (lvh_sz hl) (by decide) (Kr := []) rfl (Nat.le_of_ble_eq_true rfl) dX3_mayGo_70 (fun H locs hw => ?_)
      refine r_if_eq C (tgt := 80) (by decide) dX3_mayGo_73 (fun c20 => ?_) (fun c20 => ?_)
      · have hf := ite_t c20 hf
        refine r_iconst C dX3_mayGo_80 ?_
        exact r_zret C hw (by decide) hf dX3_mayGo_81
      · have hf := ite_f c20 hf
        refine r_iconst C dX3_mayGo_76 ?_
        refine r_goto C (tgt := 81) (by decide) dX3_mayGo_77 ?_
        exact r_zret C hw (by decide) hf dX3_mayGo_81
    · have hf := ite_t c8 hf
      refine r_iload_n C hl (kx := 2) rfl rfl dX3_mayGo_21 ?_
      refine r_aload_n C hl (kx := 0) rfl rfl dX3_mayGo_22 ?_
      refine gf_3_53 C hw t0 dX3_mayGo_23 ?_
      refine r_icmp_gt C (tgt := 33) (by decide) dX3_mayGo_26 (fun c21 => ?_) (fun c21 => ?_)
      · have hf := ite_t c21 hf
        refine r_iconst C dX3_mayGo_33 ?_
        exact r_zret C hw (by decide) hf dX3_mayGo_34
      · have hf := ite_f c21 hf
        refine r_iconst C dX3_mayGo_29 ?_
        refine r_goto C (tgt := 34) (by decide) dX3_mayGo_30 ?_
        exact r_zret C hw (by decide) hf dX3_mayGo_34
  · have hf := ite_t c4 hf
    refine r_iconst C dX3_mayGo_8 ?_
    exact r_zret C hw (by decide) hf dX3_mayGo_9
theorem c_X3_mayGo (l : Launch) (D : Ds) (b : Nat) {x0 x1 x2 x3 : Int} {μ μ' : Mem} {r : Int} (t0 : isK x0 3) (hf : f_X3_mayGo x0 x1 x2 x3 μ = some (r, μ')) : Ctr l D b yX3_mayGo cX3_mayGo 4 (some .boolean) 2 [(2, x0), (0, x1), (0, x2), (2, x3)] μ (some (.int (jI r))) μ' := by
  refine Ctr.of (by decide +kernel) (Nat.le_of_ble_eq_true rfl) ?_
  intro p e s m below meth c C hw ls hl
  exact w_X3_mayGo_0 C hf t0 hw hl
set_option maxHeartbeats 4000000 in
set_option maxRecDepth 20000 in
theorem w_X0_isOpen_0 (C : Cx p s m args meth c D b cX0_isOpen 2 RX0 (some .boolean)) {r : Int} {μ' : Mem} {x0 x1 : Int} {μ : Mem} {H : Heap} {locs : List Loc} {ls : Array Slot} (hf : f_X0_isOpen x0 x1 μ = some (r, μ')) (t0 : isK x0 0) (hw : Hw D b μ s.heap H locs) (hl : lvh b ls 2 [(0, 2, x0), (1, 0, x1)]) : W p l e (rm 3) s m args below meth c H locs 0 0 (QM below args s D b (some (.int (jI r))) μ') (F0 m 0 ls []) := by
  unfold f_X0_isOpen at hf
  refine r_aload_n C hl (kx := 0) rfl rfl dX0_isOpen_0 ?_
  refine gf_0_15 C hw t0 dX0_isOpen_1 ?_
  refine r_iload_n C hl (kx := 1) rfl rfl dX0_isOpen_4 ?_
  obtain ⟨g1, hf⟩ := gd_some hf
  obtain ⟨r3, μ2, e4, hf⟩ := bn_some hf
  refine r_callVv C hw (K := [(0, x1)]) ok3 g1 (c_X3_hasLane l D b g1 e4) mi_X3_hasLane in_X3_hasLane se_X3_hasLane kl_0_44 rfl rfl (lvh_sz hl) (by decide) (Kr := []) rfl (Nat.le_of_ble_eq_true rfl) dX0_isOpen_5 (fun H locs hw => ?_)
  refine r_if_eq C (tgt := 33) (by decide) dX0_isOpen_8 (fun c5 => ?_) (fun c5 => ?_)
  · have hf := ite_t c5 hf
    refine r_iconst C dX0_isOpen_33 ?_
    exact r_zret C hw (by decide) hf dX0_isOpen_34
  · have hf := ite_f c5 hf
    refine r_aload_n C hl (kx := 0) rfl rfl dX0_isOpen_11 ?_
    refine gf_0_15 C hw t0 dX0_isOpen_12 ?_
    refine r_iload_n C hl (kx := 1) rfl rfl dX0_isOpen_15 ?_
    refine r_aload_n C hl (kx := 0) rfl rfl dX0_isOpen_16 ?_
    refine gf_0_9 C hw t0 dX0_isOpen_17 ?_
    refine r_iload_n C hl (kx := 1) rfl rfl dX0_isOpen_20 ?_
    obtain ⟨g6, hf⟩ := gd_some hf
    refine r_iald C hw (n := 9) (ow_0_5 t0) (j := (nrm x1)) rfl g6 (by decide) dX0_isOpen_21 ?_
    refine r_aload_n C hl (kx := 0) rfl rfl dX0_isOpen_22 ?_
    obtain ⟨g7, hf⟩ := gd_some hf
    obtain ⟨r9, μ8, e10, hf⟩ := bn_some hf
    refine r_callVv C hw (K := [(0, x1), (0, (μ2 (x0 + 1) (nrm x1))), (2, x0)]) ok3 g7 (c_X3_mayGo l D b g7 e10) mi_X3_mayGo in_X3_mayGo se_X3_mayGo kl_0_51 rfl rfl (lvh_sz hl) (by decide) (Kr := []) rfl (Nat.le_of_ble_eq_true rfl) dX0_isOpen_23 (fun H locs hw => ?_)
    refine r_if_eq C (tgt := 33) (by decide) dX0_isOpen_26 (fun c11 => ?_) (fun c11 => ?_)
    · have hf := ite_t c11 hf
      refine r_iconst C dX0_isOpen_33 ?_
      exact r_zret C hw (by decide) hf dX0_isOpen_34
    · have hf := ite_f c11 hf
      refine r_iconst C dX0_isOpen_29 ?_
      refine r_goto C (tgt := 34) (by decide) dX0_isOpen_30 ?_
      exact r_zret C hw (by decide) hf dX0_isOpen_34
theorem c_X0_isOpen (l : Launch) (D : Ds) (b : Nat) {x0 x1 : Int} {μ μ' : Mem} {r : Int} (t0 : isK x0 0) (hf : f_X0_isOpen x0 x1 μ = some (r, μ')) : Ctr l D b yX0_isOpen cX0_isOpen 2 (some .boolean) 3 [(2, x0), (0, x1)] μ (some (.int (jI r))) μ' := by
  refine Ctr.of (by decide +kernel) (Nat.le_of_ble_eq_true rfl) ?_
  intro p e s m below meth c C hw ls hl
  exact w_X0_isOpen_0 C hf t0 hw hl
set_option maxHeartbeats 4000000 in
set_option maxRecDepth 20000 in
theorem w_X0_openLanes_45 (C : Cx p s m args meth c D b cX0_openLanes 3 RX0 (some .int)) {r : Int} {μ' : Mem} (k4 : Int → Int → Int → Mem → Option (Int × Mem)) (h4 : ∀ (x0 x1 x2 : Int) (μ : Mem) (H : Heap) (locs : List Loc) (ls : Array Slot), k4 x0 x1 x2 μ = some (r, μ') → isK x0 0 → Hw D b μ s.heap H locs → lvh b ls 3 [(0, 2, x0), (1, 0, x1), (2, 0, x2)] → W p l e (rm 3) s m args below meth c H locs 0 0 (QM below args s D b (some (.int (jI r))) μ') (F0 m 4 ls [])) {x0 x1 x2 : Int} {μ : Mem} {H : Heap} {locs : List Loc} {ls : Array Slot} (hf : f_X0_openLanes_j45 k4 x0 x1 x2 μ = some (r, μ')) (t0 : isK x0 0) (hw : Hw D b μ s.heap H locs) (hl : lvh b ls 3 [(0, 2, x0), (1, 0, x1), (2, 0, x2)]) : W p l e (rm 3) s m args below meth c H locs 0 0 (QM below args s D b (some (.int (jI r))) μ') (F0 m 45 ls []) := by
  unfold f_X0_openLanes_j45 at hf
  refine r_iinc C hl (kx := 2) rfl (by decide) (L' := [(2, 0, (x2 + 1)), (0, 2, x0), (1, 0, x1)]) rfl dX0_openLanes_45 (fun ls hl => ?_)
  refine r_goto C (tgt := 4) (by decide) dX0_openLanes_48 ?_
  exact h4 _ _ _ _ _ _ _ hf t0 hw (lvh_sub hl [1, 2, 0] rfl)
set_option maxHeartbeats 4000000 in
set_option maxRecDepth 20000 in
theorem w_X0_openLanes_4 (C : Cx p s m args meth c D b cX0_openLanes 3 RX0 (some .int)) {r : Int} {μ' : Mem} : ∀ (n : Nat) (x0 x1 x2 : Int) (μ : Mem) (H : Heap) (locs : List Loc) (ls : Array Slot), f_X0_openLanes_w4 n x0 x1 x2 μ = some (r, μ') → isK x0 0 → Hw D b μ s.heap H locs → lvh b ls 3 [(0, 2, x0), (1, 0, x1), (2, 0, x2)] → W p l e (rm 3) s m args below meth c H locs 0 0 (QM below args s D b (some (.int (jI r))) μ') (F0 m 4 ls []) := by
  intro n
  induction n with
  | zero => intro x0 x1 x2 μ H locs ls hf; cases hf
  | succ n ih =>
    intro x0 x1 x2 μ H locs ls hf t0 hw hl
    rw [f_X0_openLanes_w4.eq_2] at hf
    refine r_iload_n C hl (kx := 2) rfl rfl dX0_openLanes_4 ?_
    refine r_aload_n C hl (kx := 0) rfl rfl dX0_openLanes_5 ?_
    refine gf_0_15 C hw t0 dX0_openLanes_6 ?_
    obtain ⟨g1, hf⟩ := gd_some hf
    refine gf_0_48 C hw g1 dX0_openLanes_9 ?_
    refine r_icmp_ge C (tgt := 51) (by decide) dX0_openLanes_12 (fun c2 => ?_) (fun c2 => ?_)
    · have hf := ite_t c2 hf
      refine r_iload_n C hl (kx := 1) rfl rfl dX0_openLanes_51 ?_
      exact r_iret C hw hf dX0_openLanes_52
    · have hf := ite_f c2 hf
      refine r_iload_n C hl (kx := 2) rfl rfl dX0_openLanes_15 ?_
      refine r_bipush C (by decide) dX0_openLanes_16 ?_
      refine r_icmp_ge C (tgt := 51) (by decide) dX0_openLanes_18 (fun c3 => ?_) (fun c3 => ?_)
      · have hf := ite_t c3 hf
        refine r_iload_n C hl (kx := 1) rfl rfl dX0_openLanes_51 ?_
        exact r_iret C hw hf dX0_openLanes_52
      · have hf := ite_f c3 hf
        refine r_aload_n C hl (kx := 0) rfl rfl dX0_openLanes_21 ?_
        refine gf_0_15 C hw t0 dX0_openLanes_22 ?_
        refine r_iload_n C hl (kx := 2) rfl rfl dX0_openLanes_25 ?_
        refine r_aload_n C hl (kx := 0) rfl rfl dX0_openLanes_26 ?_
        refine gf_0_9 C hw t0 dX0_openLanes_27 ?_
        refine r_iload_n C hl (kx := 2) rfl rfl dX0_openLanes_30 ?_
        obtain ⟨g4, hf⟩ := gd_some hf
        refine r_iald C hw (n := 9) (ow_0_5 t0) (j := (nrm x2)) rfl g4 (by decide) dX0_openLanes_31 ?_
        refine r_aload_n C hl (kx := 0) rfl rfl dX0_openLanes_32 ?_
        obtain ⟨r6, μ5, e7, hf⟩ := bn_some hf
        refine r_callVv C hw (K := [(0, x2), (0, (μ (x0 + 1) (nrm x2))), (2, x0)]) ok3 g1 (c_X3_mayGo l D b g1 e7) mi_X3_mayGo in_X3_mayGo se_X3_mayGo kl_0_51 rfl rfl (lvh_sz hl) (by decide) (Kr := []) rfl (Nat.le_of_ble_eq_true rfl) dX0_openLanes_33 (fun H locs hw => ?_)
        refine r_if_eq C (tgt := 45) (by decide) dX0_openLanes_36 (fun c8 => ?_) (fun c8 => ?_)
        · have hf := ite_t c8 hf
          exact w_X0_openLanes_45 C _ ih hf t0 hw (lvh_sub hl [0, 1, 2] rfl)
        · have hf := ite_f c8 hf
          refine r_iload_n C hl (kx := 1) rfl rfl dX0_openLanes_39 ?_
          refine r_iconst C dX0_openLanes_40 ?_
          refine r_iload_n C hl (kx := 2) rfl rfl dX0_openLanes_41 ?_
          refine r_ishl C dX0_openLanes_42 ?_
          refine r_ior C dX0_openLanes_43 ?_
          obtain ⟨v9, e10, hf⟩ := nm_some hf
          refine top_i e10 ?_
          refine r_istore_n C hl (by decide) (L' := [(1, 0, v9), (0, 2, x0), (2, 0, x2)]) rfl rfl dX0_openLanes_44 (fun ls hl => ?_)
          exact w_X0_openLanes_45 C _ ih hf t0 hw (lvh_sub hl [1, 0, 2] rfl)
set_option maxHeartbeats 4000000 in
set_option maxRecDepth 20000 in
theorem w_X0_openLanes_0 (C : Cx p s m args meth c D b cX0_openLanes 3 RX0 (some .int)) {r : Int} {μ' : Mem} {x0 : Int} {μ : Mem} {H : Heap} {locs : List Loc} {ls : Array Slot} (hf : f_X0_openLanes x0 μ = some (r, μ')) (t0 : isK x0 0) (hw : Hw D b μ s.heap H locs) (hl : lvh b ls 3 [(0, 2, x0)]) : W p l e (rm 3) s m args below meth c H locs 0 0 (QM below args s D b (some (.int (jI r))) μ') (F0 m 0 ls []) := by
  unfold f_X0_openLanes at hf
  refine r_iconst C dX0_openLanes_0 ?_
  refine r_istore_n C hl (by decide) (L' := [(1, 0, 0), (0, 2, x0)]) rfl rfl dX0_openLanes_1 (fun ls hl => ?_)
  refine r_iconst C dX0_openLanes_2 ?_
  refine r_istore_n C hl (by decide) (L' := [(2, 0, 0), (1, 0, 0), (0, 2, x0)]) rfl rfl dX0_openLanes_3 (fun ls hl => ?_)
  exact w_X0_openLanes_4 C FU _ _ _ _ _ _ _ hf t0 hw (lvh_sub hl [2, 1, 0] rfl)
theorem c_X0_openLanes (l : Launch) (D : Ds) (b : Nat) {x0 : Int} {μ μ' : Mem} {r : Int} (t0 : isK x0 0) (hf : f_X0_openLanes x0 μ = some (r, μ')) : Ctr l D b yX0_openLanes cX0_openLanes 3 (some .int) 3 [(2, x0)] μ (some (.int (jI r))) μ' := by
  refine Ctr.of (by decide +kernel) (Nat.le_of_ble_eq_true rfl) ?_
  intro p e s m below meth c C hw ls hl
  exact w_X0_openLanes_0 C hf t0 hw hl
set_option maxHeartbeats 4000000 in
set_option maxRecDepth 20000 in
theorem w_X0_fillingsOf_6 (C : Cx p s m args meth c D b cX0_fillingsOf 3 RX0 (some .int)) {r : Int} {μ' : Mem} : ∀ (n : Nat) (x0 x1 x2 : Int) (μ : Mem) (H : Heap) (locs : List Loc) (ls : Array Slot), f_X0_fillingsOf_w6 n x0 x1 x2 μ = some (r, μ') → isK x0 0 → Hw D b μ s.heap H locs → lvh b ls 3 [(0, 2, x0), (1, 0, x1), (2, 0, x2)] → W p l e (rm 3) s m args below meth c H locs 0 0 (QM below args s D b (some (.int (jI r))) μ') (F0 m 6 ls []) := by
  intro n
  induction n with
  | zero => intro x0 x1 x2 μ H locs ls hf; cases hf
  | succ n ih =>
    intro x0 x1 x2 μ H locs ls hf t0 hw hl
    rw [f_X0_fillingsOf_w6.eq_2] at hf
    refine r_iload_n C hl (kx := 2) rfl rfl dX0_fillingsOf_6 ?_
    refine r_if_lt C (tgt := 37) (by decide) dX0_fillingsOf_7 (fun c1 => ?_) (fun c1 => ?_)
    · have hf := ite_t c1 hf
      refine r_iconst C dX0_fillingsOf_37 ?_
      exact r_iret C hw hf dX0_fillingsOf_38
    · have hf := ite_f c1 hf
      refine r_aload_n C hl (kx := 0) rfl rfl dX0_fillingsOf_10 ?_
      refine gf_0_15 C hw t0 dX0_fillingsOf_11 ?_
      refine r_iload_n C hl (kx := 1) rfl rfl dX0_fillingsOf_14 ?_
      refine r_iload_n C hl (kx := 2) rfl rfl dX0_fillingsOf_15 ?_
      refine r_aload_n C hl (kx := 0) rfl rfl dX0_fillingsOf_16 ?_
      obtain ⟨g2, hf⟩ := gd_some hf
      obtain ⟨r4, μ3, e5, hf⟩ := bn_some hf
      refine r_callVv C hw (K := [(0, x1), (0, x2), (2, x0)]) ok3 g2 (c_X3_mayGo l D b g2 e5) mi_X3_mayGo in_X3_mayGo se_X3_mayGo kl_0_51 rfl rfl (lvh_sz hl) (by decide) (Kr := []) rfl (Nat.le_of_ble_eq_true rfl) dX0_fillingsOf_17 (fun H locs hw => ?_)
      refine r_if_eq C (tgt := 31) (by decide) dX0_fillingsOf_20 (fun c6 => ?_) (fun c6 => ?_)
      · have hf := ite_t c6 hf
        refine r_iinc C hl (kx := 2) rfl (by decide) (L' := [(2, 0, (x2 + (-1))), (0, 2, x0), (1, 0, x1)]) rfl dX0_fillingsOf_31 (fun ls hl => ?_)
        refine r_goto C (tgt := 6) (by decide) dX0_fillingsOf_34 ?_
        exact ih _ _ _ _ _ _ _ hf t0 hw (lvh_sub hl [1, 2, 0] rfl)
      · have hf := ite_f c6 hf
        refine r_aload_n C hl (kx := 0) rfl rfl dX0_fillingsOf_23 ?_
        refine r_iload_n C hl (kx := 1) rfl rfl dX0_fillingsOf_24 ?_
        obtain ⟨r8, μ7, e9, hf⟩ := bn_some hf
        refine r_callVv C hw (K := [(0, x1)]) ok0 t0 (c_X0_depthOf l D b t0 e9) mi_X0_depthOf in_X0_depthOf se_X0_depthOf kl_0_55 rfl rfl (lvh_sz hl) (by decide) (Kr := []) rfl (Nat.le_of_ble_eq_true rfl) dX0_fillingsOf_25 (fun H locs hw => ?_)
        refine r_iload_n C hl (kx := 2) rfl rfl dX0_fillingsOf_28 ?_
        refine r_isub C dX0_fillingsOf_29 ?_
        exact r_iret C hw hf dX0_fillingsOf_30
set_option maxHeartbeats 4000000 in
set_option maxRecDepth 20000 in
theorem w_X0_fillingsOf_0 (C : Cx p s m args meth c D b cX0_fillingsOf 3 RX0 (some .int)) {r : Int} {μ' : Mem} {x0 x1 : Int} {μ : Mem} {H : Heap} {locs : List Loc} {ls : Array Slot} (hf : f_X0_fillingsOf x0 x1 μ = some (r, μ')) (t0 : isK x0 0) (hw : Hw D b μ s.heap H locs) (hl : lvh b ls 3 [(0, 2, x0), (1, 0, x1)]) : W p l e (rm 3) s m args below meth c H locs 0 0 (QM below args s D b (some (.int (jI r))) μ') (F0 m 0 ls []) := by
  unfold f_X0_fillingsOf at hf
  refine r_aload_n C hl (kx := 0) rfl rfl dX0_fillingsOf_0 ?_
  refine r_iload_n C hl (kx := 1) rfl rfl dX0_fillingsOf_1 ?_
  obtain ⟨r2, μ1, e3, hf⟩ := bn_some hf
  refine r_callVv C hw (K := [(0, x1)]) ok0 t0 (c_X0_depthOf l D b t0 e3) mi_X0_depthOf in_X0_depthOf se_X0_depthOf kl_0_55 rfl rfl (lvh_sz hl) (by decide) (Kr := []) rfl (Nat.le_of_ble_eq_true rfl) dX0_fillingsOf_2 (fun H locs hw => ?_)
  refine r_istore_n C hl (by decide) (L' := [(2, 0, r2), (0, 2, x0), (1, 0, x1)]) rfl rfl dX0_fillingsOf_5 (fun ls hl => ?_)
  exact w_X0_fillingsOf_6 C FU _ _ _ _ _ _ _ hf t0 hw (lvh_sub hl [1, 2, 0] rfl)
theorem c_X0_fillingsOf (l : Launch) (D : Ds) (b : Nat) {x0 x1 : Int} {μ μ' : Mem} {r : Int} (t0 : isK x0 0) (hf : f_X0_fillingsOf x0 x1 μ = some (r, μ')) : Ctr l D b yX0_fillingsOf cX0_fillingsOf 3 (some .int) 3 [(2, x0), (0, x1)] μ (some (.int (jI r))) μ' := by
  refine Ctr.of (by decide +kernel) (Nat.le_of_ble_eq_true rfl) ?_
  intro p e s m below meth c C hw ls hl
  exact w_X0_fillingsOf_0 C hf t0 hw hl
set_option maxHeartbeats 4000000 in
set_option maxRecDepth 20000 in
theorem w_X3_otherEnd_0 (C : Cx p s m args meth c D b cX3_otherEnd 3 RX3 (some .int)) {r : Int} {μ' : Mem} {x0 x1 x2 : Int} {μ : Mem} {H : Heap} {locs : List Loc} {ls : Array Slot} (hf : f_X3_otherEnd x0 x1 x2 μ = some (r, μ')) (t0 : isK x0 3) (hw : Hw D b μ s.heap H locs) (hl : lvh b ls 3 [(0, 2, x0), (1, 0, x1), (2, 0, x2)]) : W p l e (rm 1) s m args below meth c H locs 0 0 (QM below args s D b (some (.int (jI r))) μ') (F0 m 0 ls []) := by
  unfold f_X3_otherEnd at hf
  refine r_aload_n C hl (kx := 0) rfl rfl dX3_otherEnd_0 ?_
  refine r_iload_n C hl (kx := 1) rfl rfl dX3_otherEnd_1 ?_
  obtain ⟨r2, μ1, e3, hf⟩ := bn_some hf
  refine r_callVv C hw (K := [(0, x1)]) ok3 t0 (c_X3_hasLane l D b t0 e3) mi_X3_hasLane in_X3_hasLane se_X3_hasLane kl_3_71 rfl rfl (lvh_sz hl) (by decide) (Kr := []) rfl (Nat.le_of_ble_eq_true rfl) dX3_otherEnd_2 (fun H locs hw => ?_)
  refine r_if_ne C (tgt := 10) (by decide) dX3_otherEnd_5 (fun c4 => ?_) (fun c4 => ?_)
  · have hf := ite_f c4 hf
    refine r_aload_n C hl (kx := 0) rfl rfl dX3_otherEnd_10 ?_
    refine gf_3_9 C hw t0 dX3_otherEnd_11 ?_
    refine r_iload_n C hl (kx := 1) rfl rfl dX3_otherEnd_14 ?_
    obtain ⟨g5, hf⟩ := gd_some hf
    refine r_iald C hw (n := 9) (ow_3_8 t0) (j := (nrm x1)) rfl g5 (by decide) dX3_otherEnd_15 ?_
    refine r_iload_n C hl (kx := 2) rfl rfl dX3_otherEnd_16 ?_
    refine r_icmp_ne C (tgt := 27) (by decide) dX3_otherEnd_17 (fun c6 => ?_) (fun c6 => ?_)
    · have hf := ite_f c6 hf
      refine r_aload_n C hl (kx := 0) rfl rfl dX3_otherEnd_27 ?_
      refine gf_3_15 C hw t0 dX3_otherEnd_28 ?_
      refine r_iload_n C hl (kx := 1) rfl rfl dX3_otherEnd_31 ?_
      obtain ⟨g7, hf⟩ := gd_some hf
      refine r_iald C hw (n := 9) (ow_3_9 t0) (j := (nrm x1)) rfl g7 (by decide) dX3_otherEnd_32 ?_
      refine r_iload_n C hl (kx := 2) rfl rfl dX3_otherEnd_33 ?_
      refine r_icmp_ne C (tgt := 46) (by decide) dX3_otherEnd_34 (fun c8 => ?_) (fun c8 => ?_)
      · have hf := ite_f c8 hf
        refine r_iconst C dX3_otherEnd_46 ?_
        exact r_iret C hw hf dX3_otherEnd_47
      · have hf := ite_t c8 hf
        refine r_aload_n C hl (kx := 0) rfl rfl dX3_otherEnd_37 ?_
        refine gf_3_9 C hw t0 dX3_otherEnd_38 ?_
        refine r_iload_n C hl (kx := 1) rfl rfl dX3_otherEnd_41 ?_
        obtain ⟨g9, hf⟩ := gd_some hf
        refine r_iald C hw (n := 9) (ow_3_8 t0) (j := (nrm x1)) rfl g9 (by decide) dX3_otherEnd_42 ?_
        refine r_goto C (tgt := 47) (by decide) dX3_otherEnd_43 ?_
        exact r_iret C hw hf dX3_otherEnd_47
    · have hf := ite_t c6 hf
      refine r_aload_n C hl (kx := 0) rfl rfl dX3_otherEnd_20 ?_
      refine gf_3_15 C hw t0 dX3_otherEnd_21 ?_
      refine r_iload_n C hl (kx := 1) rfl rfl dX3_otherEnd_24 ?_
      obtain ⟨g10, hf⟩ := gd_some hf
      refine r_iald C hw (n := 9) (ow_3_9 t0) (j := (nrm x1)) rfl g10 (by decide) dX3_otherEnd_25 ?_
      exact r_iret C hw hf dX3_otherEnd_26
  · have hf := ite_t c4 hf
    refine r_iconst C dX3_otherEnd_8 ?_
    exact r_iret C hw hf dX3_otherEnd_9
theorem c_X3_otherEnd (l : Launch) (D : Ds) (b : Nat) {x0 x1 x2 : Int} {μ μ' : Mem} {r : Int} (t0 : isK x0 3) (hf : f_X3_otherEnd x0 x1 x2 μ = some (r, μ')) : Ctr l D b yX3_otherEnd cX3_otherEnd 3 (some .int) 1 [(2, x0), (0, x1), (0, x2)] μ (some (.int (jI r))) μ' := by
  refine Ctr.of (by decide +kernel) (Nat.le_of_ble_eq_true rfl) ?_
  intro p e s m below meth c C hw ls hl
  exact w_X3_otherEnd_0 C hf t0 hw hl
set_option maxHeartbeats 4000000 in
set_option maxRecDepth 20000 in
theorem w_X0_whyNoGoing_0 (C : Cx p s m args meth c D b cX0_whyNoGoing 2 RX0 (some .int)) {r : Int} {μ' : Mem} {x0 x1 : Int} {μ : Mem} {H : Heap} {locs : List Loc} {ls : Array Slot} (hf : f_X0_whyNoGoing x0 x1 μ = some (r, μ')) (t0 : isK x0 0) (hw : Hw D b μ s.heap H locs) (hl : lvh b ls 2 [(0, 2, x0), (1, 0, x1)]) : W p l e (rm 3) s m args below meth c H locs 0 0 (QM below args s D b (some (.int (jI r))) μ') (F0 m 0 ls []) := by
  unfold f_X0_whyNoGoing at hf
  refine r_aload_n C hl (kx := 0) rfl rfl dX0_whyNoGoing_0 ?_
  refine gf_0_15 C hw t0 dX0_whyNoGoing_1 ?_
  refine r_iload_n C hl (kx := 1) rfl rfl dX0_whyNoGoing_4 ?_
  obtain ⟨g1, hf⟩ := gd_some hf
  obtain ⟨r3, μ2, e4, hf⟩ := bn_some hf
  refine r_callVv C hw (K := [(0, x1)]) ok3 g1 (c_X3_hasLane l D b g1 e4) mi_X3_hasLane in_X3_hasLane se_X3_hasLane kl_0_44 rfl rfl (lvh_sz hl) (by decide) (Kr := []) rfl (Nat.le_of_ble_eq_true rfl) dX0_whyNoGoing_5 (fun H locs hw => ?_)
  refine r_if_ne C (tgt := 13) (by decide) dX0_whyNoGoing_8 (fun c5 => ?_) (fun c5 => ?_)
  · have hf := ite_f c5 hf
    refine r_aload_n C hl (kx := 0) rfl rfl dX0_whyNoGoing_13 ?_
    refine gf_0_15 C hw t0 dX0_whyNoGoing_14 ?_
    refine r_iload_n C hl (kx := 1) rfl rfl dX0_whyNoGoing_17 ?_
    refine r_aload_n C hl (kx := 0) rfl rfl dX0_whyNoGoing_18 ?_
    refine gf_0_25 C hw t0 dX0_whyNoGoing_19 ?_
    obtain ⟨g6, hf⟩ := gd_some hf
    obtain ⟨r8, μ7, e9, hf⟩ := bn_some hf
    refine r_callVv C hw (K := [(0, x1), (0, (μ2 x0 1))]) ok3 g6 (c_X3_otherEnd l D b g6 e9) mi_X3_otherEnd in_X3_otherEnd se_X3_otherEnd kl_0_59 rfl rfl (lvh_sz hl) (by decide) (Kr := []) rfl (Nat.le_of_ble_eq_true rfl) dX0_whyNoGoing_22 (fun H locs hw => ?_)
    refine r_iconst C dX0_whyNoGoing_25 ?_
    refine r_icmp_ne C (tgt := 31) (by decide) dX0_whyNoGoing_26 (fun c10 => ?_) (fun c10 => ?_)
    · have hf := ite_f c10 hf
      refine r_aload_n C hl (kx := 0) rfl rfl dX0_whyNoGoing_31 ?_
      refine gf_0_15 C hw t0 dX0_whyNoGoing_32 ?_
      refine r_iload_n C hl (kx := 1) rfl rfl dX0_whyNoGoing_35 ?_
      refine r_aload_n C hl (kx := 0) rfl rfl dX0_whyNoGoing_36 ?_
      refine gf_0_9 C hw t0 dX0_whyNoGoing_37 ?_
      refine r_iload_n C hl (kx := 1) rfl rfl dX0_whyNoGoing_40 ?_
      obtain ⟨g11, hf⟩ := gd_some hf
      refine r_iald C hw (n := 9) (ow_0_5 t0) (j := (nrm x1)) rfl g11 (by decide) dX0_whyNoGoing_41 ?_
      refine r_aload_n C hl (kx := 0) rfl rfl dX0_whyNoGoing_42 ?_
      obtain ⟨g12, hf⟩ := gd_some hf
      obtain ⟨r14, μ13, e15, hf⟩ := bn_some hf
      refine r_callVv C hw (K := [(0, x1), (0, (μ7 (x0 + 1) (nrm x1))), (2, x0)]) ok3 g12 (c_X3_mayGo l D b g12 e15) mi_X3_mayGo in_X3_mayGo se_X3_mayGo kl_0_51 rfl rfl (lvh_sz hl) (by decide) (Kr := []) rfl (Nat.le_of_ble_eq_true rfl) dX0_whyNoGoing_43 (fun H locs hw => ?_)
      refine r_if_eq C (tgt := 53) (by decide) dX0_whyNoGoing_46 (fun c16 => ?_) (fun c16 => ?_)
      · have hf := ite_t c16 hf
        refine r_iconst C dX0_whyNoGoing_53 ?_
        exact r_iret C hw hf dX0_whyNoGoing_54
      · have hf := ite_f c16 hf
        refine r_iconst C dX0_whyNoGoing_49 ?_
        refine r_goto C (tgt := 54) (by decide) dX0_whyNoGoing_50 ?_
        exact r_iret C hw hf dX0_whyNoGoing_54
    · have hf := ite_t c10 hf
      refine r_iconst C dX0_whyNoGoing_29 ?_
      exact r_iret C hw hf dX0_whyNoGoing_30
  · have hf := ite_t c5 hf
    refine r_iconst C dX0_whyNoGoing_11 ?_
    exact r_iret C hw hf dX0_whyNoGoing_12
theorem c_X0_whyNoGoing (l : Launch) (D : Ds) (b : Nat) {x0 x1 : Int} {μ μ' : Mem} {r : Int} (t0 : isK x0 0) (hf : f_X0_whyNoGoing x0 x1 μ = some (r, μ')) : Ctr l D b yX0_whyNoGoing cX0_whyNoGoing 2 (some .int) 3 [(2, x0), (0, x1)] μ (some (.int (jI r))) μ' := by
  refine Ctr.of (by decide +kernel) (Nat.le_of_ble_eq_true rfl) ?_
  intro p e s m below meth c C hw ls hl
  exact w_X0_whyNoGoing_0 C hf t0 hw hl
set_option maxHeartbeats 4000000 in
set_option maxRecDepth 20000 in
theorem w_X3_wornFrom_0 (C : Cx p s m args meth c D b cX3_wornFrom 4 RX3 (some .int)) {r : Int} {μ' : Mem} {x0 x1 x2 x3 : Int} {μ : Mem} {H : Heap} {locs : List Loc} {ls : Array Slot} (hf : f_X3_wornFrom x0 x1 x2 x3 μ = some (r, μ')) (t0 : isK x0 3) (hw : Hw D b μ s.heap H locs) (hl : lvh b ls 4 [(0, 2, x0), (1, 0, x1), (2, 0, x2), (3, 0, x3)]) : W p l e (rm 2) s m args below meth c H locs 0 0 (QM below args s D b (some (.int (jI r))) μ') (F0 m 0 ls []) := by
  unfold f_X3_wornFrom at hf
  refine r_aload_n C hl (kx := 0) rfl rfl dX3_wornFrom_0 ?_
  refine r_iload_n C hl (kx := 1) rfl rfl dX3_wornFrom_1 ?_
  obtain ⟨r2, μ1, e3, hf⟩ := bn_some hf
  refine r_callVv C hw (K := [(0, x1)]) ok3 t0 (c_X3_hasLane l D b t0 e3) mi_X3_hasLane in_X3_hasLane se_X3_hasLane kl_3_71 rfl rfl (lvh_sz hl) (by decide) (Kr := []) rfl (Nat.le_of_ble_eq_true rfl) dX3_wornFrom_2 (fun H locs hw => ?_)
  refine r_if_ne C (tgt := 10) (by decide) dX3_wornFrom_5 (fun c4 => ?_) (fun c4 => ?_)
  · have hf := ite_f c4 hf
    refine r_aload_n C hl (kx := 0) rfl rfl dX3_wornFrom_10 ?_
    refine gf_3_33 C hw t0 dX3_wornFrom_11 ?_
    refine r_iconst C dX3_wornFrom_14 ?_
    obtain ⟨r6, μ5, e7, hf⟩ := bn_some hf
    refine r_callVv C hw (K := [(0, 0)]) ok4 (ow_3_14 t0) (c_X4_hasLaw l D b (ow_3_14 t0) e7) mi_X4_hasLaw in_X4_hasLaw se_X4_hasLaw kl_3_75 rfl rfl (lvh_sz hl) (by decide) (Kr := []) rfl (Nat.le_of_ble_eq_true rfl) dX3_wornFrom_15 (fun H locs hw => ?_)
    refine r_if_ne C (tgt := 46) (by decide) dX3_wornFrom_18 (fun c8 => ?_) (fun c8 => ?_)
    · have hf := ite_f c8 hf
      refine r_aload_n C hl (kx := 0) rfl rfl dX3_wornFrom_46 ?_
      refine gf_3_33 C hw t0 dX3_wornFrom_47 ?_
      refine r_iload_n C hl (kx := 1) rfl rfl dX3_wornFrom_50 ?_
      refine r_iload_n C hl (kx := 2) rfl rfl dX3_wornFrom_51 ?_
      refine r_aload_n C hl (kx := 0) rfl rfl dX3_wornFrom_52 ?_
      refine gf_3_21 C hw t0 dX3_wornFrom_53 ?_
      refine r_iload_n C hl (kx := 1) rfl rfl dX3_wornFrom_56 ?_
      obtain ⟨g9, hf⟩ := gd_some hf
      refine r_iald C hw (n := 9) (ow_3_11 t0) (j := (nrm x1)) rfl g9 (by decide) dX3_wornFrom_57 ?_
      refine r_aload_n C hl (kx := 0) rfl rfl dX3_wornFrom_58 ?_
      refine gf_3_53 C hw t0 dX3_wornFrom_59 ?_
      refine r_iload_n C hl (kx := 3) rfl rfl dX3_wornFrom_62 ?_
      refine r_iconst C dX3_wornFrom_63 ?_
      obtain ⟨r11, μ10, e12, hf⟩ := bn_some hf
      refine r_callVn C hw (K := [(0, x1), (0, x2), (0, (μ5 (x0 + 4) (nrm x1))), (0, (μ5 x0 5)), (0, x3), (0, 0)]) ok4 (ow_3_14 t0) (c_X4_look l D b (ow_3_14 t0) e12) mi_X4_look in_X4_look se_X4_look kl_3_88 rfl rfl (lvh_sz hl) (by decide) (Kr := []) rfl (Nat.le_of_ble_eq_true rfl) dX3_wornFrom_64 (fun H locs hw => ?_)
      refine r_iconst C dX3_wornFrom_67 ?_
      refine r_bipush C (by decide) dX3_wornFrom_68 ?_
      refine r_aload_n C hl (kx := 0) rfl rfl dX3_wornFrom_70 ?_
      refine gf_3_33 C hw t0 dX3_wornFrom_71 ?_
      refine r_iconst C dX3_wornFrom_74 ?_
      obtain ⟨r14, μ13, e15, hf⟩ := bn_some hf
      refine r_callVv C hw (K := [(0, 0)]) ok4 (ow_3_14 t0) (c_X4_tell l D b (ow_3_14 t0) e15) mi_X4_tell in_X4_tell se_X4_tell kl_3_92 rfl rfl (lvh_sz hl) (by decide) (Kr := [(0, 6), (0, 0)]) rfl (Nat.le_of_ble_eq_true rfl) dX3_wornFrom_75 (fun H locs hw => ?_)
      obtain ⟨r17, μ16, e18, hf⟩ := bn_some hf
      refine r_callSv C hw (K := [(0, 6), (0, r14)]) (c_J9_min_7cf53 l D b e18) mi_J9_min_7cf53 st_J9_min_7cf53 kl_3_95 rfl rfl (lvh_sz hl) (by decide) (Kr := [(0, 0)]) rfl (Nat.le_of_ble_eq_true rfl) dX3_wornFrom_78 (fun H locs hw => ?_)
      obtain ⟨r20, μ19, e21, hf⟩ := bn_some hf
      refine r_callSv C hw (K := [(0, 0), (0, r17)]) (c_J9_max_7cf53 l D b e21) mi_J9_max_7cf53 st_J9_max_7cf53 kl_3_101 rfl rfl (lvh_sz hl) (by decide) (Kr := []) rfl (Nat.le_of_ble_eq_true rfl) dX3_wornFrom_81 (fun H locs hw => ?_)
      exact r_iret C hw hf dX3_wornFrom_84
    · have hf := ite_t c8 hf
      refine r_aload_n C hl (kx := 0) rfl rfl dX3_wornFrom_21 ?_
      refine gf_3_21 C hw t0 dX3_wornFrom_22 ?_
      refine r_iload_n C hl (kx := 1) rfl rfl dX3_wornFrom_25 ?_
      obtain ⟨g22, hf⟩ := gd_some hf
      refine r_iald C hw (n := 9) (ow_3_11 t0) (j := (nrm x1)) rfl g22 (by decide) dX3_wornFrom_26 ?_
      refine r_iload_n C hl (kx := 3) rfl rfl dX3_wornFrom_27 ?_
      refine r_iadd C dX3_wornFrom_28 ?_
      refine r_iconst C dX3_wornFrom_29 ?_
      refine r_icmp_le C (tgt := 44) (by decide) dX3_wornFrom_30 (fun c23 => ?_) (fun c23 => ?_)
      · have hf := ite_t c23 hf
        refine r_iload_n C hl (kx := 2) rfl rfl dX3_wornFrom_44 ?_
        exact r_iret C hw hf dX3_wornFrom_45
      · have hf := ite_f c23 hf
        refine r_bipush C (by decide) dX3_wornFrom_33 ?_
        refine r_iload_n C hl (kx := 2) rfl rfl dX3_wornFrom_35 ?_
        refine r_iconst C dX3_wornFrom_36 ?_
        refine r_iadd C dX3_wornFrom_37 ?_
        obtain ⟨r25, μ24, e26, hf⟩ := bn_some hf
        refine r_callSv C hw (K := [(0, 6), (0, (x2 + 1))]) (c_J9_min_7cf53 l D b e26) mi_J9_min_7cf53 st_J9_min_7cf53 kl_3_95 rfl rfl (lvh_sz hl) (by decide) (Kr := []) rfl (Nat.le_of_ble_eq_true rfl) dX3_wornFrom_38 (fun H locs hw => ?_)
        refine r_goto C (tgt := 45) (by decide) dX3_wornFrom_41 ?_
        exact r_iret C hw hf dX3_wornFrom_45
  · have hf := ite_t c4 hf
    refine r_iload_n C hl (kx := 2) rfl rfl dX3_wornFrom_8 ?_
    exact r_iret C hw hf dX3_wornFrom_9
theorem c_X3_wornFrom (l : Launch) (D : Ds) (b : Nat) {x0 x1 x2 x3 : Int} {μ μ' : Mem} {r : Int} (t0 : isK x0 3) (hf : f_X3_wornFrom x0 x1 x2 x3 μ = some (r, μ')) : Ctr l D b yX3_wornFrom cX3_wornFrom 4 (some .int) 2 [(2, x0), (0, x1), (0, x2), (0, x3)] μ (some (.int (jI r))) μ' := by
  refine Ctr.of (by decide +kernel) (Nat.le_of_ble_eq_true rfl) ?_
  intro p e s m below meth c C hw ls hl
  exact w_X3_wornFrom_0 C hf t0 hw hl
set_option maxHeartbeats 4000000 in
set_option maxRecDepth 20000 in
theorem w_X0_goBy_0 (C : Cx p s m args meth c D b cX0_goBy 3 RX0 (none)) {r : Int} {μ' : Mem} {x0 x1 : Int} {μ : Mem} {H : Heap} {locs : List Loc} {ls : Array Slot} (hf : f_X0_goBy x0 x1 μ = some (r, μ')) (t0 : isK x0 0) (hw : Hw D b μ s.heap H locs) (hl : lvh b ls 3 [(0, 2, x0), (1, 0, x1)]) : W p l e (rm 3) s m args below meth c H locs 0 0 (QM below args s D b none μ') (F0 m 0 ls []) := by
  unfold f_X0_goBy at hf
  refine r_aload_n C hl (kx := 0) rfl rfl dX0_goBy_0 ?_
  refine gf_0_15 C hw t0 dX0_goBy_1 ?_
  refine r_iload_n C hl (kx := 1) rfl rfl dX0_goBy_4 ?_
  refine r_aload_n C hl (kx := 0) rfl rfl dX0_goBy_5 ?_
  refine gf_0_25 C hw t0 dX0_goBy_6 ?_
  obtain ⟨g1, hf⟩ := gd_some hf
  obtain ⟨r3, μ2, e4, hf⟩ := bn_some hf
  refine r_callVv C hw (K := [(0, x1), (0, (μ x0 1))]) ok3 g1 (c_X3_otherEnd l D b g1 e4) mi_X3_otherEnd in_X3_otherEnd se_X3_otherEnd kl_0_59 rfl rfl (lvh_sz hl) (by decide) (Kr := []) rfl (Nat.le_of_ble_eq_true rfl) dX0_goBy_9 (fun H locs hw => ?_)
  refine r_istore_n C hl (by decide) (L' := [(2, 0, r3), (0, 2, x0), (1, 0, x1)]) rfl rfl dX0_goBy_12 (fun ls hl => ?_)
  refine r_iload_n C hl (kx := 0) rfl rfl dX0_goBy_13 ?_
  refine r_iconst C dX0_goBy_14 ?_
  refine r_icmp_eq C (tgt := 68) (by decide) dX0_goBy_15 (fun c5 => ?_) (fun c5 => ?_)
  · have hf := ite_t c5 hf
    exact r_vret C hw hf dX0_goBy_68
  · have hf := ite_f c5 hf
    refine r_aload_n C hl (kx := 1) rfl rfl dX0_goBy_18 ?_
    refine gf_0_15 C hw t0 dX0_goBy_19 ?_
    refine r_iload_n C hl (kx := 2) rfl rfl dX0_goBy_22 ?_
    obtain ⟨g6, hf⟩ := gd_some hf
    obtain ⟨r8, μ7, e9, hf⟩ := bn_some hf
    refine r_callVv C hw (K := [(0, x1)]) ok3 g6 (c_X3_hasLane l D b g6 e9) mi_X3_hasLane in_X3_hasLane se_X3_hasLane kl_0_44 rfl rfl (lvh_sz hl) (by decide) (Kr := []) rfl (Nat.le_of_ble_eq_true rfl) dX0_goBy_23 (fun H locs hw => ?_)
    refine r_if_eq C (tgt := 68) (by decide) dX0_goBy_26 (fun c10 => ?_) (fun c10 => ?_)
    · have hf := ite_t c10 hf
      exact r_vret C hw hf dX0_goBy_68
    · have hf := ite_f c10 hf
      refine r_aload_n C hl (kx := 1) rfl rfl dX0_goBy_29 ?_
      refine r_iload_n C hl (kx := 0) rfl rfl dX0_goBy_30 ?_
      obtain ⟨μ11, e12, hf⟩ := nm_some hf
      refine pf_0_25 C hw t0 dX0_goBy_31 (fun H locs hw => ?_)
      rw [← e12] at hw
      refine r_aload_n C hl (kx := 1) rfl rfl dX0_goBy_34 ?_
      refine gf_0_9 C hw t0 dX0_goBy_35 ?_
      refine r_iload_n C hl (kx := 2) rfl rfl dX0_goBy_38 ?_
      refine r_aload_n C hl (kx := 1) rfl rfl dX0_goBy_39 ?_
      refine gf_0_15 C hw t0 dX0_goBy_40 ?_
      refine r_iload_n C hl (kx := 2) rfl rfl dX0_goBy_43 ?_
      refine r_aload_n C hl (kx := 1) rfl rfl dX0_goBy_44 ?_
      refine gf_0_9 C hw t0 dX0_goBy_45 ?_
      refine r_iload_n C hl (kx := 2) rfl rfl dX0_goBy_48 ?_
      obtain ⟨g13, hf⟩ := gd_some hf
      refine r_iald C hw (n := 9) (ow_0_5 t0) (j := (nrm x1)) rfl g13 (by decide) dX0_goBy_49 ?_
      refine r_aload_n C hl (kx := 1) rfl rfl dX0_goBy_50 ?_
      refine gf_0_29 C hw t0 dX0_goBy_51 ?_
      obtain ⟨g14, hf⟩ := gd_some hf
      obtain ⟨r16, μ15, e17, hf⟩ := bn_some hf
      refine r_callVv C hw (K := [(0, x1), (0, (μ11 (x0 + 1) (nrm x1))), (0, (μ11 x0 2))]) ok3 g14 (c_X3_wornFrom l D b g14 e17) mi_X3_wornFrom in_X3_wornFrom se_X3_wornFrom kl_0_83 rfl rfl (lvh_sz hl) (by decide) (Kr := [(0, x1), (2, (x0 + 1))]) rfl (Nat.le_of_ble_eq_true rfl) dX0_goBy_54 (fun H locs hw => ?_)
      obtain ⟨g20, hf⟩ := gd_some hf
      obtain ⟨μ18, e19, hf⟩ := nm_some hf
      refine r_iast C hw (n := 9) (ow_0_5 t0) (j := (nrm x1)) rfl g20 (by decide) dX0_goBy_57 (fun H locs hw => ?_)
      rw [← e19] at hw
      refine r_aload_n C hl (kx := 1) rfl rfl dX0_goBy_58 ?_
      refine r_dup C (rfv_cat _ _) dX0_goBy_59 ?_
      refine gf_0_34 C hw t0 dX0_goBy_60 ?_
      refine r_iconst C dX0_goBy_63 ?_
      refine r_iadd C dX0_goBy_64 ?_
      obtain ⟨μ21, e22, hf⟩ := nm_some hf
      refine pf_0_34 C hw t0 dX0_goBy_65 (fun H locs hw => ?_)
      rw [← e22] at hw
      exact r_vret C hw hf dX0_goBy_68
theorem c_X0_goBy (l : Launch) (D : Ds) (b : Nat) {x0 x1 : Int} {μ μ' : Mem} {r : Int} (t0 : isK x0 0) (hf : f_X0_goBy x0 x1 μ = some (r, μ')) : Ctr l D b yX0_goBy cX0_goBy 3 (none) 3 [(2, x0), (0, x1)] μ none μ' := by
  refine Ctr.of (by decide +kernel) (Nat.le_of_ble_eq_true rfl) ?_
  intro p e s m below meth c C hw ls hl
  exact w_X0_goBy_0 C hf t0 hw hl
set_option maxHeartbeats 4000000 in
set_option maxRecDepth 20000 in
theorem w_X0_tryDepth_0 (C : Cx p s m args meth c D b cX0_tryDepth 3 RX0 (some .int)) {r : Int} {μ' : Mem} {x0 x1 x2 : Int} {μ : Mem} {H : Heap} {locs : List Loc} {ls : Array Slot} (hf : f_X0_tryDepth x0 x1 x2 μ = some (r, μ')) (t0 : isK x0 0) (hw : Hw D b μ s.heap H locs) (hl : lvh b ls 3 [(0, 2, x0), (1, 0, x1), (2, 0, x2)]) : W p l e (rm 1) s m args below meth c H locs 0 0 (QM below args s D b (some (.int (jI r))) μ') (F0 m 0 ls []) := by
  unfold f_X0_tryDepth at hf
  refine r_aload_n C hl (kx := 0) rfl rfl dX0_tryDepth_0 ?_
  refine gf_0_15 C hw t0 dX0_tryDepth_1 ?_
  refine r_iload_n C hl (kx := 1) rfl rfl dX0_tryDepth_4 ?_
  obtain ⟨g1, hf⟩ := gd_some hf
  obtain ⟨r3, μ2, e4, hf⟩ := bn_some hf
  refine r_callVv C hw (K := [(0, x1)]) ok3 g1 (c_X3_hasLane l D b g1 e4) mi_X3_hasLane in_X3_hasLane se_X3_hasLane kl_0_44 rfl rfl (lvh_sz hl) (by decide) (Kr := []) rfl (Nat.le_of_ble_eq_true rfl) dX0_tryDepth_5 (fun H locs hw => ?_)
  refine r_if_ne C (tgt := 13) (by decide) dX0_tryDepth_8 (fun c5 => ?_) (fun c5 => ?_)
  · have hf := ite_f c5 hf
    refine r_aload_n C hl (kx := 0) rfl rfl dX0_tryDepth_13 ?_
    refine gf_0_9 C hw t0 dX0_tryDepth_14 ?_
    refine r_iload_n C hl (kx := 1) rfl rfl dX0_tryDepth_17 ?_
    obtain ⟨g6, hf⟩ := gd_some hf
    refine r_iald C hw (n := 9) (ow_0_5 t0) (j := (nrm x1)) rfl g6 (by decide) dX0_tryDepth_18 ?_
    refine r_iload_n C hl (kx := 2) rfl rfl dX0_tryDepth_19 ?_
    refine r_iadd C dX0_tryDepth_20 ?_
    refine r_if_lt C (tgt := 37) (by decide) dX0_tryDepth_21 (fun c7 => ?_) (fun c7 => ?_)
    · have hf := ite_t c7 hf
      refine r_iconst C dX0_tryDepth_37 ?_
      exact r_iret C hw hf dX0_tryDepth_38
    · have hf := ite_f c7 hf
      refine r_aload_n C hl (kx := 0) rfl rfl dX0_tryDepth_24 ?_
      refine gf_0_9 C hw t0 dX0_tryDepth_25 ?_
      refine r_iload_n C hl (kx := 1) rfl rfl dX0_tryDepth_28 ?_
      obtain ⟨g8, hf⟩ := gd_some hf
      refine r_iald C hw (n := 9) (ow_0_5 t0) (j := (nrm x1)) rfl g8 (by decide) dX0_tryDepth_29 ?_
      refine r_iload_n C hl (kx := 2) rfl rfl dX0_tryDepth_30 ?_
      refine r_iadd C dX0_tryDepth_31 ?_
      refine r_bipush C (by decide) dX0_tryDepth_32 ?_
      refine r_icmp_le C (tgt := 39) (by decide) dX0_tryDepth_34 (fun c9 => ?_) (fun c9 => ?_)
      · have hf := ite_t c9 hf
        refine r_aload_n C hl (kx := 0) rfl rfl dX0_tryDepth_39 ?_
        refine gf_0_9 C hw t0 dX0_tryDepth_40 ?_
        refine r_iload_n C hl (kx := 1) rfl rfl dX0_tryDepth_43 ?_
        refine r_dup2 C rfl (rfv_cat _ _) dX0_tryDepth_44 ?_
        obtain ⟨g10, hf⟩ := gd_some hf
        refine r_iald C hw (n := 9) (ow_0_5 t0) (j := (nrm x1)) rfl g10 (by decide) dX0_tryDepth_45 ?_
        refine r_iload_n C hl (kx := 2) rfl rfl dX0_tryDepth_46 ?_
        refine r_iadd C dX0_tryDepth_47 ?_
        obtain ⟨g13, hf⟩ := gd_some hf
        obtain ⟨μ11, e12, hf⟩ := nm_some hf
        refine r_iast C hw (n := 9) (ow_0_5 t0) (j := (nrm x1)) rfl g13 (by decide) dX0_tryDepth_48 (fun H locs hw => ?_)
        rw [← e12] at hw
        refine r_iconst C dX0_tryDepth_49 ?_
        exact r_iret C hw hf dX0_tryDepth_50
      · have hf := ite_f c9 hf
        refine r_iconst C dX0_tryDepth_37 ?_
        exact r_iret C hw hf dX0_tryDepth_38
  · have hf := ite_t c5 hf
    refine r_iconst C dX0_tryDepth_11 ?_
    exact r_iret C hw hf dX0_tryDepth_12
theorem c_X0_tryDepth (l : Launch) (D : Ds) (b : Nat) {x0 x1 x2 : Int} {μ μ' : Mem} {r : Int} (t0 : isK x0 0) (hf : f_X0_tryDepth x0 x1 x2 μ = some (r, μ')) : Ctr l D b yX0_tryDepth cX0_tryDepth 3 (some .int) 1 [(2, x0), (0, x1), (0, x2)] μ (some (.int (jI r))) μ' := by
  refine Ctr.of (by decide +kernel) (Nat.le_of_ble_eq_true rfl) ?_
  intro p e s m below meth c C hw ls hl
  exact w_X0_tryDepth_0 C hf t0 hw hl
set_option maxHeartbeats 4000000 in
set_option maxRecDepth 20000 in
theorem w_X0_tryTurning_0 (C : Cx p s m args meth c D b cX0_tryTurning 2 RX0 (some .int)) {r : Int} {μ' : Mem} {x0 x1 : Int} {μ : Mem} {H : Heap} {locs : List Loc} {ls : Array Slot} (hf : f_X0_tryTurning x0 x1 μ = some (r, μ')) (t0 : isK x0 0) (hw : Hw D b μ s.heap H locs) (hl : lvh b ls 2 [(0, 2, x0), (1, 0, x1)]) : W p l e (rm 0) s m args below meth c H locs 0 0 (QM below args s D b (some (.int (jI r))) μ') (F0 m 0 ls []) := by
  unfold f_X0_tryTurning at hf
  refine r_iload_n C hl (kx := 1) rfl rfl dX0_tryTurning_0 ?_
  refine r_if_lt C (tgt := 15) (by decide) dX0_tryTurning_1 (fun c1 => ?_) (fun c1 => ?_)
  · have hf := ite_t c1 hf
    refine r_iconst C dX0_tryTurning_15 ?_
    exact r_iret C hw hf dX0_tryTurning_16
  · have hf := ite_f c1 hf
    refine r_iload_n C hl (kx := 1) rfl rfl dX0_tryTurning_4 ?_
    refine r_aload_n C hl (kx := 0) rfl rfl dX0_tryTurning_5 ?_
    refine gf_0_15 C hw t0 dX0_tryTurning_6 ?_
    obtain ⟨g2, hf⟩ := gd_some hf
    refine gf_0_87 C hw g2 dX0_tryTurning_9 ?_
    refine r_icmp_lt C (tgt := 17) (by decide) dX0_tryTurning_12 (fun c3 => ?_) (fun c3 => ?_)
    · have hf := ite_t c3 hf
      refine r_aload_n C hl (kx := 0) rfl rfl dX0_tryTurning_17 ?_
      refine r_dup C (rfv_cat _ _) dX0_tryTurning_18 ?_
      refine gf_0_33 C hw t0 dX0_tryTurning_19 ?_
      refine r_iconst C dX0_tryTurning_22 ?_
      refine r_iload_n C hl (kx := 1) rfl rfl dX0_tryTurning_23 ?_
      refine r_ishl C dX0_tryTurning_24 ?_
      refine r_ixor C dX0_tryTurning_25 ?_
      obtain ⟨μ4, e5, hf⟩ := nm_some hf
      refine pf_0_33 C hw t0 dX0_tryTurning_26 (fun H locs hw => ?_)
      rw [← e5] at hw
      refine r_iconst C dX0_tryTurning_29 ?_
      exact r_iret C hw hf dX0_tryTurning_30
    · have hf := ite_f c3 hf
      refine r_iconst C dX0_tryTurning_15 ?_
      exact r_iret C hw hf dX0_tryTurning_16
theorem c_X0_tryTurning (l : Launch) (D : Ds) (b : Nat) {x0 x1 : Int} {μ μ' : Mem} {r : Int} (t0 : isK x0 0) (hf : f_X0_tryTurning x0 x1 μ = some (r, μ')) : Ctr l D b yX0_tryTurning cX0_tryTurning 2 (some .int) 0 [(2, x0), (0, x1)] μ (some (.int (jI r))) μ' := by
  refine Ctr.of (by decide +kernel) (Nat.le_of_ble_eq_true rfl) ?_
  intro p e s m below meth c C hw ls hl
  exact w_X0_tryTurning_0 C hf t0 hw hl
set_option maxHeartbeats 4000000 in
set_option maxRecDepth 20000 in
theorem w_X3_backBehindSeason_44 (C : Cx p s m args meth c D b cX3_backBehindSeason 5 RX3 (some .int)) {r : Int} {μ' : Mem} (k10 : Int → Int → Int → Int → Mem → Option (Int × Mem)) (h10 : ∀ (x0 x2 x3 x4 : Int) (μ : Mem) (H : Heap) (locs : List Loc) (ls : Array Slot), k10 x0 x2 x3 x4 μ = some (r, μ') → isK x0 3 → Hw D b μ s.heap H locs → lvh b ls 5 [(0, 2, x0), (2, 0, x2), (3, 0, x3), (4, 0, x4)] → W p l e (rm 1) s m args below meth c H locs 0 0 (QM below args s D b (some (.int (jI r))) μ') (F0 m 10 ls [])) {x0 x2 x3 x4 : Int} {μ : Mem} {H : Heap} {locs : List Loc} {ls : Array Slot} (hf : f_X3_backBehindSeason_j44 k10 x0 x2 x3 x4 μ = some (r, μ')) (t0 : isK x0 3) (hw : Hw D b μ s.heap H locs) (hl : lvh b ls 5 [(0, 2, x0), (2, 0, x2), (3, 0, x3), (4, 0, x4)]) : W p l e (rm 1) s m args below meth c H locs 0 0 (QM below args s D b (some (.int (jI r))) μ') (F0 m 44 ls []) := by
  unfold f_X3_backBehindSeason_j44 at hf
  refine r_iinc C hl (kx := 3) rfl (by decide) (L' := [(4, 0, (x4 + 1)), (0, 2, x0), (2, 0, x2), (3, 0, x3)]) rfl dX3_backBehindSeason_44 (fun ls hl => ?_)
  refine r_goto C (tgt := 10) (by decide) dX3_backBehindSeason_47 ?_
  exact h10 _ _ _ _ _ _ _ _ hf t0 hw (lvh_sub hl [1, 2, 3, 0] rfl)
set_option maxHeartbeats 4000000 in
set_option maxRecDepth 20000 in
theorem w_X3_backBehindSeason_10 (C : Cx p s m args meth c D b cX3_backBehindSeason 5 RX3 (some .int)) {r : Int} {μ' : Mem} : ∀ (n : Nat) (x0 x2 x3 x4 : Int) (μ : Mem) (H : Heap) (locs : List Loc) (ls : Array Slot), f_X3_backBehindSeason_w10 n x0 x2 x3 x4 μ = some (r, μ') → isK x0 3 → Hw D b μ s.heap H locs → lvh b ls 5 [(0, 2, x0), (2, 0, x2), (3, 0, x3), (4, 0, x4)] → W p l e (rm 1) s m args below meth c H locs 0 0 (QM below args s D b (some (.int (jI r))) μ') (F0 m 10 ls []) := by
  intro n
  induction n with
  | zero => intro x0 x2 x3 x4 μ H locs ls hf; cases hf
  | succ n ih =>
    intro x0 x2 x3 x4 μ H locs ls hf t0 hw hl
    rw [f_X3_backBehindSeason_w10.eq_2] at hf
    refine r_iload C hl (kx := 3) rfl dX3_backBehindSeason_10 ?_
    refine r_aload_n C hl (kx := 0) rfl rfl dX3_backBehindSeason_12 ?_
    refine gf_3_44 C hw t0 dX3_backBehindSeason_13 ?_
    refine r_icmp_ge C (tgt := 50) (by decide) dX3_backBehindSeason_16 (fun c1 => ?_) (fun c1 => ?_)
    · have hf := ite_t c1 hf
      refine r_iload_n C hl (kx := 2) rfl rfl dX3_backBehindSeason_50 ?_
      exact r_iret C hw hf dX3_backBehindSeason_51
    · have hf := ite_f c1 hf
      refine r_iload C hl (kx := 3) rfl dX3_backBehindSeason_19 ?_
      refine r_bipush C (by decide) dX3_backBehindSeason_21 ?_
      refine r_icmp_ge C (tgt := 50) (by decide) dX3_backBehindSeason_23 (fun c2 => ?_) (fun c2 => ?_)
      · have hf := ite_t c2 hf
        refine r_iload_n C hl (kx := 2) rfl rfl dX3_backBehindSeason_50 ?_
        exact r_iret C hw hf dX3_backBehindSeason_51
      · have hf := ite_f c2 hf
        refine r_iload_n C hl (kx := 1) rfl rfl dX3_backBehindSeason_26 ?_
        refine r_aload_n C hl (kx := 0) rfl rfl dX3_backBehindSeason_27 ?_
        refine gf_3_27 C hw t0 dX3_backBehindSeason_28 ?_
        refine r_iload C hl (kx := 3) rfl dX3_backBehindSeason_31 ?_
        obtain ⟨g3, hf⟩ := gd_some hf
        refine r_iald C hw (n := 8) (ow_3_13 t0) (j := (nrm x4)) rfl g3 (by decide) dX3_backBehindSeason_33 ?_
        refine r_icmp_lt C (tgt := 44) (by decide) dX3_backBehindSeason_34 (fun c4 => ?_) (fun c4 => ?_)
        · have hf := ite_t c4 hf
          exact w_X3_backBehindSeason_44 C _ ih hf t0 hw (lvh_sub hl [0, 1, 2, 3] rfl)
        · have hf := ite_f c4 hf
          refine r_iload_n C hl (kx := 2) rfl rfl dX3_backBehindSeason_37 ?_
          refine r_iconst C dX3_backBehindSeason_38 ?_
          refine r_iload C hl (kx := 3) rfl dX3_backBehindSeason_39 ?_
          refine r_ishl C dX3_backBehindSeason_41 ?_
          refine r_ior C dX3_backBehindSeason_42 ?_
          obtain ⟨v5, e6, hf⟩ := nm_some hf
          refine top_i e6 ?_
          refine r_istore_n C hl (by decide) (L' := [(3, 0, v5), (0, 2, x0), (2, 0, x2), (4, 0, x4)]) rfl rfl dX3_backBehindSeason_43 (fun ls hl => ?_)
          exact w_X3_backBehindSeason_44 C _ ih hf t0 hw (lvh_sub hl [1, 2, 0, 3] rfl)
set_option maxHeartbeats 4000000 in
set_option maxRecDepth 20000 in
theorem w_X3_backBehindSeason_0 (C : Cx p s m args meth c D b cX3_backBehindSeason 5 RX3 (some .int)) {r : Int} {μ' : Mem} {x0 x1 : Int} {μ : Mem} {H : Heap} {locs : List Loc} {ls : Array Slot} (hf : f_X3_backBehindSeason x0 x1 μ = some (r, μ')) (t0 : isK x0 3) (hw : Hw D b μ s.heap H locs) (hl : lvh b ls 5 [(0, 2, x0), (1, 0, x1)]) : W p l e (rm 1) s m args below meth c H locs 0 0 (QM below args s D b (some (.int (jI r))) μ') (F0 m 0 ls []) := by
  unfold f_X3_backBehindSeason at hf
  refine r_iload_n C hl (kx := 1) rfl rfl dX3_backBehindSeason_0 ?_
  obtain ⟨r2, μ1, e3, hf⟩ := bn_some hf
  refine r_callSv C hw (K := [(0, x1)]) (c_J6_bitCount_0f7a4 l D b e3) mi_J6_bitCount_0f7a4 st_J6_bitCount_0f7a4 kl_3_82 rfl rfl (lvh_sz hl) (by decide) (Kr := []) rfl (Nat.le_of_ble_eq_true rfl) dX3_backBehindSeason_1 (fun H locs hw => ?_)
  refine r_istore_n C hl (by decide) (L' := [(2, 0, r2), (0, 2, x0), (1, 0, x1)]) rfl rfl dX3_backBehindSeason_4 (fun ls hl => ?_)
  refine r_iload_n C hl (kx := 2) rfl rfl dX3_backBehindSeason_5 ?_
  refine r_istore_n C hl (by decide) (L' := [(3, 0, x1), (2, 0, r2), (0, 2, x0), (1, 0, x1)]) rfl rfl dX3_backBehindSeason_6 (fun ls hl => ?_)
  refine r_iconst C dX3_backBehindSeason_7 ?_
  refine r_istore C hl (by decide) (L' := [(4, 0, 0), (3, 0, x1), (2, 0, r2), (0, 2, x0), (1, 0, x1)]) rfl dX3_backBehindSeason_8 (fun ls hl => ?_)
  exact w_X3_backBehindSeason_10 C FU _ _ _ _ _ _ _ _ hf t0 hw (lvh_sub hl [3, 2, 1, 0] rfl)
theorem c_X3_backBehindSeason (l : Launch) (D : Ds) (b : Nat) {x0 x1 : Int} {μ μ' : Mem} {r : Int} (t0 : isK x0 3) (hf : f_X3_backBehindSeason x0 x1 μ = some (r, μ')) : Ctr l D b yX3_backBehindSeason cX3_backBehindSeason 5 (some .int) 1 [(2, x0), (0, x1)] μ (some (.int (jI r))) μ' := by
  refine Ctr.of (by decide +kernel) (Nat.le_of_ble_eq_true rfl) ?_
  intro p e s m below meth c C hw ls hl
  exact w_X3_backBehindSeason_0 C hf t0 hw hl
set_option maxHeartbeats 4000000 in
set_option maxRecDepth 20000 in
theorem w_X0_tryDeed_0 (C : Cx p s m args meth c D b cX0_tryDeed 5 RX0 (some .int)) {r : Int} {μ' : Mem} {x0 x1 : Int} {μ : Mem} {H : Heap} {locs : List Loc} {ls : Array Slot} (hf : f_X0_tryDeed x0 x1 μ = some (r, μ')) (t0 : isK x0 0) (hw : Hw D b μ s.heap H locs) (hl : lvh b ls 5 [(0, 2, x0), (1, 1, x1)]) : W p l e (rm 4) s m args below meth c H locs 0 0 (QM below args s D b (some (.int (jI r))) μ') (F0 m 0 ls []) := by
  unfold f_X0_tryDeed at hf
  refine r_lload_n C hl (kx := 1) rfl rfl dX0_tryDeed_0 ?_
  refine r_lconst C (z := 0) (by decide) dX0_tryDeed_1 ?_
  refine r_lcmp C dX0_tryDeed_2 ?_
  refine r_if_lt C (tgt := 14) (by decide) dX0_tryDeed_3 (fun c1 => ?_) (fun c1 => ?_)
  · have hf := ite_t c1 hf
    refine r_iconst C dX0_tryDeed_14 ?_
    exact r_iret C hw hf dX0_tryDeed_15
  · have hf := ite_f c1 hf
    refine r_lload_n C hl (kx := 1) rfl rfl dX0_tryDeed_6 ?_
    refine r_ldc2 C (z := 50) (by decide) kw944 dX0_tryDeed_7 ?_
    refine r_lcmp C dX0_tryDeed_10 ?_
    refine r_if_le C (tgt := 16) (by decide) dX0_tryDeed_11 (fun c2 => ?_) (fun c2 => ?_)
    · have hf := ite_t c2 hf
      refine r_lload_n C hl (kx := 1) rfl rfl dX0_tryDeed_16 ?_
      refine r_ldc2 C (z := 10) (by decide) kw945 dX0_tryDeed_17 ?_
      refine r_lrem C (by decide) dX0_tryDeed_20 ?_
      refine r_l2i C dX0_tryDeed_21 ?_
      obtain ⟨v3, e4, hf⟩ := nm_some hf
      refine top_i e4 ?_
      refine r_istore_n C hl (by decide) (L' := [(3, 0, v3), (0, 2, x0), (1, 1, x1)]) rfl rfl dX0_tryDeed_22 (fun ls hl => ?_)
      refine r_lload_n C hl (kx := 2) rfl rfl dX0_tryDeed_23 ?_
      refine r_iload_n C hl (kx := 0) rfl rfl dX0_tryDeed_24 ?_
      refine r_i2l C dX0_tryDeed_25 ?_
      refine r_lsub C dX0_tryDeed_26 ?_
      refine r_l2i C dX0_tryDeed_27 ?_
      rcases Decidable.em (nrm (x1 - (nrm v3)) = 0) with c5 | c5
      · have hf := ite_t c5 hf
        refine r_look C (tgt := 80) (off := 52) (by decide) (by rw [c5]; rfl) (by decide) dX0_tryDeed_28 ?_
        refine r_aload_n C hl (kx := 1) rfl rfl dX0_tryDeed_80 ?_
        refine r_iload_n C hl (kx := 0) rfl rfl dX0_tryDeed_81 ?_
        obtain ⟨r7, μ6, e8, hf⟩ := bn_some hf
        refine r_callVv C hw (K := [(0, v3)]) ok0 t0 (c_X0_whyNoGoing l D b t0 e8) mi_X0_whyNoGoing in_X0_whyNoGoing se_X0_whyNoGoing kl_0_67 rfl rfl (lvh_sz hl) (by decide) (Kr := []) rfl (Nat.le_of_ble_eq_true rfl) dX0_tryDeed_82 (fun H locs hw => ?_)
        refine r_istore C hl (by decide) (L' := [(4, 0, r7), (3, 0, v3), (0, 2, x0), (1, 1, x1)]) rfl dX0_tryDeed_85 (fun ls hl => ?_)
        refine r_iload C hl (kx := 0) rfl dX0_tryDeed_87 ?_
        refine r_if_ne C (tgt := 97) (by decide) dX0_tryDeed_89 (fun c9 => ?_) (fun c9 => ?_)
        · have hf := ite_f c9 hf
          refine r_iload C hl (kx := 0) rfl dX0_tryDeed_97 ?_
          exact r_iret C hw hf dX0_tryDeed_99
        · have hf := ite_t c9 hf
          refine r_aload_n C hl (kx := 2) rfl rfl dX0_tryDeed_92 ?_
          refine r_iload_n C hl (kx := 1) rfl rfl dX0_tryDeed_93 ?_
          obtain ⟨r11, μ10, e12, hf⟩ := bn_some hf
          refine r_callVn C hw (K := [(0, v3)]) ok0 t0 (c_X0_goBy l D b t0 e12) mi_X0_goBy in_X0_goBy se_X0_goBy kl_0_70 rfl rfl (lvh_sz hl) (by decide) (Kr := []) rfl (Nat.le_of_ble_eq_true rfl) dX0_tryDeed_94 (fun H locs hw => ?_)
          refine r_iload C hl (kx := 0) rfl dX0_tryDeed_97 ?_
          exact r_iret C hw hf dX0_tryDeed_99
      have hf := ite_f c5 hf
      rcases Decidable.em (nrm (x1 - (nrm v3)) = 10) with c13 | c13
      · have hf := ite_t c13 hf
        refine r_look C (tgt := 100) (off := 72) (by decide) (by rw [c13]; rfl) (by decide) dX0_tryDeed_28 ?_
        refine r_aload_n C hl (kx := 1) rfl rfl dX0_tryDeed_100 ?_
        refine r_iload_n C hl (kx := 0) rfl rfl dX0_tryDeed_101 ?_
        refine r_iconst C dX0_tryDeed_102 ?_
        obtain ⟨r15, μ14, e16, hf⟩ := bn_some hf
        refine r_callVv C hw (K := [(0, v3), (0, (-1))]) ok0 t0 (c_X0_tryDepth l D b t0 e16) mi_X0_tryDepth in_X0_tryDepth se_X0_tryDepth kl_0_74 rfl rfl (lvh_sz hl) (by decide) (Kr := []) rfl (Nat.le_of_ble_eq_true rfl) dX0_tryDeed_103 (fun H locs hw => ?_)
        exact r_iret C hw hf dX0_tryDeed_106
      have hf := ite_f c13 hf
      rcases Decidable.em (nrm (x1 - (nrm v3)) = 20) with c17 | c17
      · have hf := ite_t c17 hf
        refine r_look C (tgt := 107) (off := 79) (by decide) (by rw [c17]; rfl) (by decide) dX0_tryDeed_28 ?_
        refine r_aload_n C hl (kx := 1) rfl rfl dX0_tryDeed_107 ?_
        refine r_iload_n C hl (kx := 0) rfl rfl dX0_tryDeed_108 ?_
        refine r_iconst C dX0_tryDeed_109 ?_
        obtain ⟨r19, μ18, e20, hf⟩ := bn_some hf
        refine r_callVv C hw (K := [(0, v3), (0, 1)]) ok0 t0 (c_X0_tryDepth l D b t0 e20) mi_X0_tryDepth in_X0_tryDepth se_X0_tryDepth kl_0_74 rfl rfl (lvh_sz hl) (by decide) (Kr := []) rfl (Nat.le_of_ble_eq_true rfl) dX0_tryDeed_110 (fun H locs hw => ?_)
        exact r_iret C hw hf dX0_tryDeed_113
      have hf := ite_f c17 hf
      rcases Decidable.em (nrm (x1 - (nrm v3)) = 30) with c21 | c21
      · have hf := ite_t c21 hf
        refine r_look C (tgt := 114) (off := 86) (by decide) (by rw [c21]; rfl) (by decide) dX0_tryDeed_28 ?_
        refine r_aload_n C hl (kx := 1) rfl rfl dX0_tryDeed_114 ?_
        refine r_iload_n C hl (kx := 0) rfl rfl dX0_tryDeed_115 ?_
        obtain ⟨μ22, e23, hf⟩ := nm_some hf
        refine pf_0_29 C hw t0 dX0_tryDeed_116 (fun H locs hw => ?_)
        rw [← e23] at hw
        refine r_iconst C dX0_tryDeed_119 ?_
        exact r_iret C hw hf dX0_tryDeed_120
      have hf := ite_f c21 hf
      rcases Decidable.em (nrm (x1 - (nrm v3)) = 40) with c24 | c24
      · have hf := ite_t c24 hf
        refine r_look C (tgt := 121) (off := 93) (by decide) (by rw [c24]; rfl) (by decide) dX0_tryDeed_28 ?_
        refine r_aload_n C hl (kx := 1) rfl rfl dX0_tryDeed_121 ?_
        refine r_iload_n C hl (kx := 0) rfl rfl dX0_tryDeed_122 ?_
        obtain ⟨r26, μ25, e27, hf⟩ := bn_some hf
        refine r_callVv C hw (K := [(0, v3)]) ok0 t0 (c_X0_tryTurning l D b t0 e27) mi_X0_tryTurning in_X0_tryTurning se_X0_tryTurning kl_0_77 rfl rfl (lvh_sz hl) (by decide) (Kr := []) rfl (Nat.le_of_ble_eq_true rfl) dX0_tryDeed_123 (fun H locs hw => ?_)
        exact r_iret C hw hf dX0_tryDeed_126
      have hf := ite_f c24 hf
      refine r_look C (tgt := 127) (off := 99) (by decide) (by refine (look_ne c5).trans ?_; refine (look_ne c13).trans ?_; refine (look_ne c17).trans ?_; refine (look_ne c21).trans ?_; refine (look_ne c24).trans ?_; rfl) (by decide) dX0_tryDeed_28 ?_
      refine r_aload_n C hl (kx := 1) rfl rfl dX0_tryDeed_127 ?_
      refine r_aload_n C hl (kx := 1) rfl rfl dX0_tryDeed_128 ?_
      refine gf_0_15 C hw t0 dX0_tryDeed_129 ?_
      refine r_aload_n C hl (kx := 1) rfl rfl dX0_tryDeed_132 ?_
      refine gf_0_33 C hw t0 dX0_tryDeed_133 ?_
      obtain ⟨g28, hf⟩ := gd_some hf
      obtain ⟨r30, μ29, e31, hf⟩ := bn_some hf
      refine r_callVv C hw (K := [(0, (μ x0 3))]) ok3 g28 (c_X3_backBehindSeason l D b g28 e31) mi_X3_backBehindSeason in_X3_backBehindSeason se_X3_backBehindSeason kl_0_80 rfl rfl (lvh_sz hl) (by decide) (Kr := [(2, x0)]) rfl (Nat.le_of_ble_eq_true rfl) dX0_tryDeed_136 (fun H locs hw => ?_)
      obtain ⟨μ32, e33, hf⟩ := nm_some hf
      refine pf_0_33 C hw t0 dX0_tryDeed_139 (fun H locs hw => ?_)
      rw [← e33] at hw
      refine r_iconst C dX0_tryDeed_142 ?_
      exact r_iret C hw hf dX0_tryDeed_143
    · have hf := ite_f c2 hf
      refine r_iconst C dX0_tryDeed_14 ?_
      exact r_iret C hw hf dX0_tryDeed_15
theorem c_X0_tryDeed (l : Launch) (D : Ds) (b : Nat) {x0 x1 : Int} {μ μ' : Mem} {r : Int} (t0 : isK x0 0) (hf : f_X0_tryDeed x0 x1 μ = some (r, μ')) : Ctr l D b yX0_tryDeed cX0_tryDeed 5 (some .int) 4 [(2, x0), (1, x1)] μ (some (.int (jI r))) μ' := by
  refine Ctr.of (by decide +kernel) (Nat.le_of_ble_eq_true rfl) ?_
  intro p e s m below meth c C hw ls hl
  exact w_X0_tryDeed_0 C hf t0 hw hl
set_option maxHeartbeats 4000000 in
set_option maxRecDepth 20000 in
theorem w_X1_leadsToLoss_0 (C : Cx p s m args meth c D b cX1_leadsToLoss 8 RX1 (some .boolean)) {r : Int} {μ' : Mem} {x0 x1 x2 x3 x4 x5 : Int} {μ : Mem} {H : Heap} {locs : List Loc} {ls : Array Slot} (hf : f_X1_leadsToLoss x0 x1 x2 x3 x4 x5 μ = some (r, μ')) (t0 : isK x0 1) (hw : Hw D b μ s.heap H locs) (hl : lvh b ls 8 [(0, 2, x0), (1, 2, x1), (2, 0, x2), (3, 0, x3), (4, 0, x4), (5, 0, x5)]) : W p l e (rm 2) s m args below meth c H locs 0 0 (QM below args s D b (some (.int (jI r))) μ') (F0 m 0 ls []) := by
  unfold f_X1_leadsToLoss at hf
  refine r_aload_n C hl (kx := 1) rfl rfl dX1_leadsToLoss_0 ?_
  refine r_iload C hl (kx := 4) rfl dX1_leadsToLoss_1 ?_
  refine r_iload C hl (kx := 5) rfl dX1_leadsToLoss_3 ?_
  obtain ⟨g1, hf⟩ := gd_some hf
  obtain ⟨r3, μ2, e4, hf⟩ := bn_some hf
  refine r_callVv C hw (K := [(0, x4), (0, x5)]) ok3 g1 (c_X3_otherEnd l D b g1 e4) mi_X3_otherEnd in_X3_otherEnd se_X3_otherEnd kl_1_48 rfl rfl (lvh_sz hl) (by decide) (Kr := []) rfl (Nat.le_of_ble_eq_true rfl) dX1_leadsToLoss_5 (fun H locs hw => ?_)
  refine r_istore C hl (by decide) (L' := [(6, 0, r3), (0, 2, x0), (1, 2, x1), (2, 0, x2), (3, 0, x3), (4, 0, x4), (5, 0, x5)]) rfl dX1_leadsToLoss_8 (fun ls hl => ?_)
  refine r_iload_n C hl (kx := 4) rfl rfl dX1_leadsToLoss_10 ?_
  refine r_iconst C dX1_leadsToLoss_11 ?_
  refine r_iload C hl (kx := 5) rfl dX1_leadsToLoss_12 ?_
  refine r_ishl C dX1_leadsToLoss_14 ?_
  refine r_ior C dX1_leadsToLoss_15 ?_
  obtain ⟨v5, e6, hf⟩ := nm_some hf
  refine top_i e6 ?_
  refine r_istore C hl (by decide) (L' := [(7, 0, v5), (6, 0, r3), (0, 2, x0), (1, 2, x1), (2, 0, x2), (3, 0, x3), (4, 0, x4), (5, 0, x5)]) rfl dX1_leadsToLoss_16 (fun ls hl => ?_)
  refine r_iload C hl (kx := 1) rfl dX1_leadsToLoss_18 ?_
  refine r_iconst C dX1_leadsToLoss_20 ?_
  refine r_icmp_eq C (tgt := 54) (by decide) dX1_leadsToLoss_21 (fun c7 => ?_) (fun c7 => ?_)
  · have hf := ite_t c7 hf
    refine r_iconst C dX1_leadsToLoss_54 ?_
    exact r_zret C hw (by decide) hf dX1_leadsToLoss_55
  · have hf := ite_f c7 hf
    refine r_iload C hl (kx := 0) rfl dX1_leadsToLoss_24 ?_
    refine r_iload_n C hl (kx := 5) rfl rfl dX1_leadsToLoss_26 ?_
    refine r_icmp_eq C (tgt := 54) (by decide) dX1_leadsToLoss_27 (fun c8 => ?_) (fun c8 => ?_)
    · have hf := ite_t c8 hf
      refine r_iconst C dX1_leadsToLoss_54 ?_
      exact r_zret C hw (by decide) hf dX1_leadsToLoss_55
    · have hf := ite_f c8 hf
      refine r_iload_n C hl (kx := 4) rfl rfl dX1_leadsToLoss_30 ?_
      refine r_iload C hl (kx := 6) rfl dX1_leadsToLoss_31 ?_
      refine r_ishr C dX1_leadsToLoss_33 ?_
      refine r_iconst C dX1_leadsToLoss_34 ?_
      refine r_iand C dX1_leadsToLoss_35 ?_
      refine r_if_eq C (tgt := 54) (by decide) dX1_leadsToLoss_36 (fun c9 => ?_) (fun c9 => ?_)
      · have hf := ite_t c9 hf
        refine r_iconst C dX1_leadsToLoss_54 ?_
        exact r_zret C hw (by decide) hf dX1_leadsToLoss_55
      · have hf := ite_f c9 hf
        refine r_iload C hl (kx := 0) rfl dX1_leadsToLoss_39 ?_
        refine r_if_lt C (tgt := 54) (by decide) dX1_leadsToLoss_41 (fun c10 => ?_) (fun c10 => ?_)
        · have hf := ite_t c10 hf
          refine r_iconst C dX1_leadsToLoss_54 ?_
          exact r_zret C hw (by decide) hf dX1_leadsToLoss_55
        · have hf := ite_f c10 hf
          refine r_iload C hl (kx := 0) rfl dX1_leadsToLoss_44 ?_
          refine r_aload_n C hl (kx := 2) rfl rfl dX1_leadsToLoss_46 ?_
          refine gf_1_9 C hw t0 dX1_leadsToLoss_47 ?_
          refine r_alen1 C hw (n := 512) (ow_1_0 t0) (by decide) (z := 512) rfl dX1_leadsToLoss_50 ?_
          refine r_icmp_lt C (tgt := 56) (by decide) dX1_leadsToLoss_51 (fun c11 => ?_) (fun c11 => ?_)
          · have hf := ite_t c11 hf
            refine r_aload_n C hl (kx := 2) rfl rfl dX1_leadsToLoss_56 ?_
            refine gf_1_9 C hw t0 dX1_leadsToLoss_57 ?_
            refine r_iload C hl (kx := 0) rfl dX1_leadsToLoss_60 ?_
            obtain ⟨g12, hf⟩ := gd_some hf
            refine r_iald C hw (n := 512) (ow_1_0 t0) (j := (nrm v5)) rfl g12 (by decide) dX1_leadsToLoss_62 ?_
            refine r_iload C hl (kx := 1) rfl dX1_leadsToLoss_63 ?_
            refine r_ishr C dX1_leadsToLoss_65 ?_
            refine r_iconst C dX1_leadsToLoss_66 ?_
            refine r_iand C dX1_leadsToLoss_67 ?_
            refine r_if_ne C (tgt := 75) (by decide) dX1_leadsToLoss_68 (fun c13 => ?_) (fun c13 => ?_)
            · have hf := ite_f c13 hf
              refine r_iconst C dX1_leadsToLoss_75 ?_
              exact r_zret C hw (by decide) hf dX1_leadsToLoss_76
            · have hf := ite_t c13 hf
              refine r_iconst C dX1_leadsToLoss_71 ?_
              refine r_goto C (tgt := 76) (by decide) dX1_leadsToLoss_72 ?_
              exact r_zret C hw (by decide) hf dX1_leadsToLoss_76
          · have hf := ite_f c11 hf
            refine r_iconst C dX1_leadsToLoss_54 ?_
            exact r_zret C hw (by decide) hf dX1_leadsToLoss_55
theorem c_X1_leadsToLoss (l : Launch) (D : Ds) (b : Nat) {x0 x1 x2 x3 x4 x5 : Int} {μ μ' : Mem} {r : Int} (t0 : isK x0 1) (hf : f_X1_leadsToLoss x0 x1 x2 x3 x4 x5 μ = some (r, μ')) : Ctr l D b yX1_leadsToLoss cX1_leadsToLoss 8 (some .boolean) 2 [(2, x0), (2, x1), (0, x2), (0, x3), (0, x4), (0, x5)] μ (some (.int (jI r))) μ' := by
  refine Ctr.of (by decide +kernel) (Nat.le_of_ble_eq_true rfl) ?_
  intro p e s m below meth c C hw ls hl
  exact w_X1_leadsToLoss_0 C hf t0 hw hl
set_option maxHeartbeats 4000000 in
set_option maxRecDepth 20000 in
theorem w_X1_wonBehind_88 (C : Cx p s m args meth c D b cX1_wonBehind 6 RX1 (some .int)) {r : Int} {μ' : Mem} (k6 : Int → Int → Int → Int → Int → Int → Mem → Option (Int × Mem)) (h6 : ∀ (x0 x1 x2 x3 x4 x5 : Int) (μ : Mem) (H : Heap) (locs : List Loc) (ls : Array Slot), k6 x0 x1 x2 x3 x4 x5 μ = some (r, μ') → isK x0 1 → Hw D b μ s.heap H locs → lvh b ls 6 [(0, 2, x0), (1, 2, x1), (2, 0, x2), (3, 0, x3), (4, 0, x4), (5, 0, x5)] → W p l e (rm 3) s m args below meth c H locs 0 0 (QM below args s D b (some (.int (jI r))) μ') (F0 m 6 ls [])) {x0 x1 x2 x3 x4 x5 : Int} {μ : Mem} {H : Heap} {locs : List Loc} {ls : Array Slot} (hf : f_X1_wonBehind_j88 k6 x0 x1 x2 x3 x4 x5 μ = some (r, μ')) (t0 : isK x0 1) (hw : Hw D b μ s.heap H locs) (hl : lvh b ls 6 [(0, 2, x0), (1, 2, x1), (2, 0, x2), (3, 0, x3), (4, 0, x4), (5, 0, x5)]) : W p l e (rm 3) s m args below meth c H locs 0 0 (QM below args s D b (some (.int (jI r))) μ') (F0 m 88 ls []) := by
  unfold f_X1_wonBehind_j88 at hf
  refine r_iinc C hl (kx := 5) rfl (by decide) (L' := [(5, 0, (x5 + 1)), (0, 2, x0), (1, 2, x1), (2, 0, x2), (3, 0, x3), (4, 0, x4)]) rfl dX1_wonBehind_88 (fun ls hl => ?_)
  refine r_goto C (tgt := 6) (by decide) dX1_wonBehind_91 ?_
  exact h6 _ _ _ _ _ _ _ _ _ _ hf t0 hw (lvh_sub hl [1, 2, 3, 4, 5, 0] rfl)
set_option maxHeartbeats 4000000 in
set_option maxRecDepth 20000 in
theorem w_X1_wonBehind_55 (C : Cx p s m args meth c D b cX1_wonBehind 6 RX1 (some .int)) {r : Int} {μ' : Mem} (k6 : Int → Int → Int → Int → Int → Int → Mem → Option (Int × Mem)) (h6 : ∀ (x0 x1 x2 x3 x4 x5 : Int) (μ : Mem) (H : Heap) (locs : List Loc) (ls : Array Slot), k6 x0 x1 x2 x3 x4 x5 μ = some (r, μ') → isK x0 1 → Hw D b μ s.heap H locs → lvh b ls 6 [(0, 2, x0), (1, 2, x1), (2, 0, x2), (3, 0, x3), (4, 0, x4), (5, 0, x5)] → W p l e (rm 3) s m args below meth c H locs 0 0 (QM below args s D b (some (.int (jI r))) μ') (F0 m 6 ls [])) {x0 x1 x2 x3 x4 x5 : Int} {μ : Mem} {H : Heap} {locs : List Loc} {ls : Array Slot} (hf : f_X1_wonBehind_j55 k6 x0 x1 x2 x3 x4 x5 μ = some (r, μ')) (t0 : isK x0 1) (hw : Hw D b μ s.heap H locs) (hl : lvh b ls 6 [(0, 2, x0), (1, 2, x1), (2, 0, x2), (3, 0, x3), (4, 0, x4), (5, 0, x5)]) : W p l e (rm 3) s m args below meth c H locs 0 0 (QM below args s D b (some (.int (jI r))) μ') (F0 m 55 ls []) := by
  unfold f_X1_wonBehind_j55 at hf
  refine r_aload_n C hl (kx := 0) rfl rfl dX1_wonBehind_55 ?_
  refine r_aload_n C hl (kx := 1) rfl rfl dX1_wonBehind_56 ?_
  refine r_iload_n C hl (kx := 2) rfl rfl dX1_wonBehind_57 ?_
  refine r_iload_n C hl (kx := 3) rfl rfl dX1_wonBehind_58 ?_
  refine r_iload C hl (kx := 5) rfl dX1_wonBehind_59 ?_
  refine r_aload_n C hl (kx := 1) rfl rfl dX1_wonBehind_61 ?_
  obtain ⟨g1, hf⟩ := gd_some hf
  refine gf_1_45 C hw g1 dX1_wonBehind_62 ?_
  refine r_iload C hl (kx := 5) rfl dX1_wonBehind_65 ?_
  obtain ⟨g2, hf⟩ := gd_some hf
  refine r_iald C hw (n := 9) (ow_3_9 g1) (j := (nrm x5)) rfl g2 (by decide) dX1_wonBehind_67 ?_
  obtain ⟨r4, μ3, e5, hf⟩ := bn_some hf
  refine r_callVv C hw (K := [(2, x1), (0, x2), (0, x3), (0, x5), (0, (μ (x1 + 2) (nrm x5)))]) ok1 t0 (c_X1_leadsToLoss l D b t0 e5) mi_X1_leadsToLoss in_X1_leadsToLoss se_X1_leadsToLoss kl_1_38 rfl rfl (lvh_sz hl) (by decide) (Kr := []) rfl (Nat.le_of_ble_eq_true rfl) dX1_wonBehind_68 (fun H locs hw => ?_)
  refine r_if_eq C (tgt := 88) (by decide) dX1_wonBehind_71 (fun c6 => ?_) (fun c6 => ?_)
  · have hf := ite_t c6 hf
    exact w_X1_wonBehind_88 C _ h6 hf t0 hw (lvh_sub hl [0, 1, 2, 3, 4, 5] rfl)
  · have hf := ite_f c6 hf
    refine r_iload C hl (kx := 4) rfl dX1_wonBehind_74 ?_
    refine r_iconst C dX1_wonBehind_76 ?_
    refine r_aload_n C hl (kx := 1) rfl rfl dX1_wonBehind_77 ?_
    refine gf_1_45 C hw g1 dX1_wonBehind_78 ?_
    refine r_iload C hl (kx := 5) rfl dX1_wonBehind_81 ?_
    obtain ⟨g7, hf⟩ := gd_some hf
    refine r_iald C hw (n := 9) (ow_3_9 g1) (j := (nrm x5)) rfl g7 (by decide) dX1_wonBehind_83 ?_
    refine r_ishl C dX1_wonBehind_84 ?_
    refine r_ior C dX1_wonBehind_85 ?_
    obtain ⟨v8, e9, hf⟩ := nm_some hf
    refine top_i e9 ?_
    refine r_istore C hl (by decide) (L' := [(4, 0, v8), (0, 2, x0), (1, 2, x1), (2, 0, x2), (3, 0, x3), (5, 0, x5)]) rfl dX1_wonBehind_86 (fun ls hl => ?_)
    exact w_X1_wonBehind_88 C _ h6 hf t0 hw (lvh_sub hl [1, 2, 3, 4, 0, 5] rfl)
set_option maxHeartbeats 4000000 in
set_option maxRecDepth 20000 in
theorem w_X1_wonBehind_6 (C : Cx p s m args meth c D b cX1_wonBehind 6 RX1 (some .int)) {r : Int} {μ' : Mem} : ∀ (n : Nat) (x0 x1 x2 x3 x4 x5 : Int) (μ : Mem) (H : Heap) (locs : List Loc) (ls : Array Slot), f_X1_wonBehind_w6 n x0 x1 x2 x3 x4 x5 μ = some (r, μ') → isK x0 1 → Hw D b μ s.heap H locs → lvh b ls 6 [(0, 2, x0), (1, 2, x1), (2, 0, x2), (3, 0, x3), (4, 0, x4), (5, 0, x5)] → W p l e (rm 3) s m args below meth c H locs 0 0 (QM below args s D b (some (.int (jI r))) μ') (F0 m 6 ls []) := by
  intro n
  induction n with
  | zero => intro x0 x1 x2 x3 x4 x5 μ H locs ls hf; cases hf
  | succ n ih =>
    intro x0 x1 x2 x3 x4 x5 μ H locs ls hf t0 hw hl
    rw [f_X1_wonBehind_w6.eq_2] at hf
    refine r_iload C hl (kx := 5) rfl dX1_wonBehind_6 ?_
    refine r_aload_n C hl (kx := 1) rfl rfl dX1_wonBehind_8 ?_
    obtain ⟨g1, hf⟩ := gd_some hf
    refine gf_1_25 C hw g1 dX1_wonBehind_9 ?_
    refine r_icmp_ge C (tgt := 94) (by decide) dX1_wonBehind_12 (fun c2 => ?_) (fun c2 => ?_)
    · have hf := ite_t c2 hf
      refine r_iload C hl (kx := 4) rfl dX1_wonBehind_94 ?_
      exact r_iret C hw hf dX1_wonBehind_96
    · have hf := ite_f c2 hf
      refine r_iload C hl (kx := 5) rfl dX1_wonBehind_15 ?_
      refine r_bipush C (by decide) dX1_wonBehind_17 ?_
      refine r_icmp_ge C (tgt := 94) (by decide) dX1_wonBehind_19 (fun c3 => ?_) (fun c3 => ?_)
      · have hf := ite_t c3 hf
        refine r_iload C hl (kx := 4) rfl dX1_wonBehind_94 ?_
        exact r_iret C hw hf dX1_wonBehind_96
      · have hf := ite_f c3 hf
        refine r_aload_n C hl (kx := 0) rfl rfl dX1_wonBehind_22 ?_
        refine r_aload_n C hl (kx := 1) rfl rfl dX1_wonBehind_23 ?_
        refine r_iload_n C hl (kx := 2) rfl rfl dX1_wonBehind_24 ?_
        refine r_iload_n C hl (kx := 3) rfl rfl dX1_wonBehind_25 ?_
        refine r_iload C hl (kx := 5) rfl dX1_wonBehind_26 ?_
        refine r_aload_n C hl (kx := 1) rfl rfl dX1_wonBehind_28 ?_
        refine gf_1_42 C hw g1 dX1_wonBehind_29 ?_
        refine r_iload C hl (kx := 5) rfl dX1_wonBehind_32 ?_
        obtain ⟨g4, hf⟩ := gd_some hf
        refine r_iald C hw (n := 9) (ow_3_8 g1) (j := (nrm x5)) rfl g4 (by decide) dX1_wonBehind_34 ?_
        obtain ⟨r6, μ5, e7, hf⟩ := bn_some hf
        refine r_callVv C hw (K := [(2, x1), (0, x2), (0, x3), (0, x5), (0, (μ (x1 + 1) (nrm x5)))]) ok1 t0 (c_X1_leadsToLoss l D b t0 e7) mi_X1_leadsToLoss in_X1_leadsToLoss se_X1_leadsToLoss kl_1_38 rfl rfl (lvh_sz hl) (by decide) (Kr := []) rfl (Nat.le_of_ble_eq_true rfl) dX1_wonBehind_35 (fun H locs hw => ?_)
        refine r_if_eq C (tgt := 55) (by decide) dX1_wonBehind_38 (fun c8 => ?_) (fun c8 => ?_)
        · have hf := ite_t c8 hf
          exact w_X1_wonBehind_55 C _ ih hf t0 hw (lvh_sub hl [0, 1, 2, 3, 4, 5] rfl)
        · have hf := ite_f c8 hf
          refine r_iload C hl (kx := 4) rfl dX1_wonBehind_41 ?_
          refine r_iconst C dX1_wonBehind_43 ?_
          refine r_aload_n C hl (kx := 1) rfl rfl dX1_wonBehind_44 ?_
          refine gf_1_42 C hw g1 dX1_wonBehind_45 ?_
          refine r_iload C hl (kx := 5) rfl dX1_wonBehind_48 ?_
          obtain ⟨g9, hf⟩ := gd_some hf
          refine r_iald C hw (n := 9) (ow_3_8 g1) (j := (nrm x5)) rfl g9 (by decide) dX1_wonBehind_50 ?_
          refine r_ishl C dX1_wonBehind_51 ?_
          refine r_ior C dX1_wonBehind_52 ?_
          obtain ⟨v10, e11, hf⟩ := nm_some hf
          refine top_i e11 ?_
          refine r_istore C hl (by decide) (L' := [(4, 0, v10), (0, 2, x0), (1, 2, x1), (2, 0, x2), (3, 0, x3), (5, 0, x5)]) rfl dX1_wonBehind_53 (fun ls hl => ?_)
          exact w_X1_wonBehind_55 C _ ih hf t0 hw (lvh_sub hl [1, 2, 3, 4, 0, 5] rfl)
set_option maxHeartbeats 4000000 in
set_option maxRecDepth 20000 in
theorem w_X1_wonBehind_0 (C : Cx p s m args meth c D b cX1_wonBehind 6 RX1 (some .int)) {r : Int} {μ' : Mem} {x0 x1 x2 x3 : Int} {μ : Mem} {H : Heap} {locs : List Loc} {ls : Array Slot} (hf : f_X1_wonBehind x0 x1 x2 x3 μ = some (r, μ')) (t0 : isK x0 1) (hw : Hw D b μ s.heap H locs) (hl : lvh b ls 6 [(0, 2, x0), (1, 2, x1), (2, 0, x2), (3, 0, x3)]) : W p l e (rm 3) s m args below meth c H locs 0 0 (QM below args s D b (some (.int (jI r))) μ') (F0 m 0 ls []) := by
  unfold f_X1_wonBehind at hf
  refine r_iconst C dX1_wonBehind_0 ?_
  refine r_istore C hl (by decide) (L' := [(4, 0, 0), (0, 2, x0), (1, 2, x1), (2, 0, x2), (3, 0, x3)]) rfl dX1_wonBehind_1 (fun ls hl => ?_)
  refine r_iconst C dX1_wonBehind_3 ?_
  refine r_istore C hl (by decide) (L' := [(5, 0, 0), (4, 0, 0), (0, 2, x0), (1, 2, x1), (2, 0, x2), (3, 0, x3)]) rfl dX1_wonBehind_4 (fun ls hl => ?_)
  exact w_X1_wonBehind_6 C FU _ _ _ _ _ _ _ _ _ _ hf t0 hw (lvh_sub hl [2, 3, 4, 5, 1, 0] rfl)
theorem c_X1_wonBehind (l : Launch) (D : Ds) (b : Nat) {x0 x1 x2 x3 : Int} {μ μ' : Mem} {r : Int} (t0 : isK x0 1) (hf : f_X1_wonBehind x0 x1 x2 x3 μ = some (r, μ')) : Ctr l D b yX1_wonBehind cX1_wonBehind 6 (some .int) 3 [(2, x0), (2, x1), (0, x2), (0, x3)] μ (some (.int (jI r))) μ' := by
  refine Ctr.of (by decide +kernel) (Nat.le_of_ble_eq_true rfl) ?_
  intro p e s m below meth c C hw ls hl
  exact w_X1_wonBehind_0 C hf t0 hw hl
end WALK
