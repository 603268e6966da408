section WALK
variable {p : Program} {l : Launch} {e : Env} {s : State} {m : MethodId} {args : Array Value} {below : List Frame} {meth : Method} {c : Code} {H : Heap} {locs : List Loc} {D : Ds} {b : Nat} {n0 : Nat}
set_option maxHeartbeats 4000000 in
set_option maxRecDepth 20000 in
theorem w_X11_rain_0 (C : Cx p s m args meth c D b cX11_rain 4 RX11 (some .int)) {r : Int} {μ' : Mem} {x0 x1 : Int} {μ : Mem} {H : Heap} {locs : List Loc} {ls : Array Slot} (hf : f_X11_rain x0 x1 μ = some (r, μ')) (t0 : isK x0 11) (hw : Hw D b μ s.heap H locs) (hl : lvh b ls 4 [(0, 2, x0), (1, 0, x1)]) : W p l e (rm 6) s m args below meth c H locs 0 0 (QM below args s D b (some (.int (jI r))) μ') (F0 m 0 ls []) := by
  unfold f_X11_rain at hf
  refine r_aload_n C hl (kx := 0) rfl rfl dX11_rain_0 ?_
  refine gf_11_36 C hw t0 dX11_rain_1 ?_
  refine gf_11_151 C hw (ow_11_6 t0) dX11_rain_4 ?_
  obtain ⟨v1, e2, hf⟩ := nm_some hf
  refine top_i e2 ?_
  refine r_istore_n C hl (by decide) (L' := [(2, 0, v1), (0, 2, x0), (1, 0, x1)]) rfl rfl dX11_rain_7 (fun ls hl => ?_)
  refine r_aload_n C hl (kx := 1) rfl rfl dX11_rain_8 ?_
  refine r_bipush C (by decide) dX11_rain_9 ?_
  refine r_iload_n C hl (kx := 2) rfl rfl dX11_rain_11 ?_
  obtain ⟨r4, μ3, e5, hf⟩ := bn_some hf
  refine r_callVv C hw (K := [(0, 30), (0, x1)]) ok11 t0 (c_X11_doOne l D b t0 e5) mi_X11_doOne in_X11_doOne se_X11_doOne kl_11_161 rfl rfl (lvh_sz hl) (by decide) (Kr := []) rfl (Nat.le_of_ble_eq_true rfl) dX11_rain_12 (fun H locs hw => ?_)
  refine r_istore_n C hl (by decide) (L' := [(3, 0, r4), (2, 0, v1), (0, 2, x0), (1, 0, x1)]) rfl rfl dX11_rain_15 (fun ls hl => ?_)
  refine r_iload_n C hl (kx := 0) rfl rfl dX11_rain_16 ?_
  refine r_if_eq C (tgt := 27) (by decide) dX11_rain_17 (fun c6 => ?_) (fun c6 => ?_)
  · have hf := ite_t c6 hf
    refine r_iload_n C hl (kx := 1) rfl rfl dX11_rain_27 ?_
    exact r_iret C hw hf dX11_rain_28
  · have hf := ite_f c6 hf
    refine r_bipush C (by decide) dX11_rain_20 ?_
    refine r_iload_n C hl (kx := 0) rfl rfl dX11_rain_22 ?_
    refine r_isub C dX11_rain_23 ?_
    refine r_goto C (tgt := 28) (by decide) dX11_rain_24 ?_
    exact r_iret C hw hf dX11_rain_28
theorem c_X11_rain (l : Launch) (D : Ds) (b : Nat) {x0 x1 : Int} {μ μ' : Mem} {r : Int} (t0 : isK x0 11) (hf : f_X11_rain x0 x1 μ = some (r, μ')) : Ctr l D b yX11_rain cX11_rain 4 (some .int) 6 [(2, x0), (0, x1)] μ (some (.int (jI r))) μ' := by
  refine Ctr.of (by decide +kernel) (Nat.le_of_ble_eq_true rfl) ?_
  intro p e s m below meth c C hw ls hl
  exact w_X11_rain_0 C hf t0 hw hl
set_option maxHeartbeats 4000000 in
set_option maxRecDepth 20000 in
theorem w_X11_undo_0 (C : Cx p s m args meth c D b cX11_undo 2 RX11 (some .int)) {r : Int} {μ' : Mem} {x0 x1 : Int} {μ : Mem} {H : Heap} {locs : List Loc} {ls : Array Slot} (hf : f_X11_undo x0 x1 μ = some (r, μ')) (t0 : isK x0 11) (hw : Hw D b μ s.heap H locs) (hl : lvh b ls 2 [(0, 2, x0), (1, 0, x1)]) : W p l e (rm 3) s m args below meth c H locs 0 0 (QM below args s D b (some (.int (jI r))) μ') (F0 m 0 ls []) := by
  unfold f_X11_undo at hf
  refine r_iload_n C hl (kx := 1) rfl rfl dX11_undo_0 ?_
  refine r_iconst C dX11_undo_1 ?_
  refine r_icmp_lt C (tgt := 22) (by decide) dX11_undo_2 (fun c1 => ?_) (fun c1 => ?_)
  · have hf := ite_t c1 hf
    refine r_bipush C (by decide) dX11_undo_22 ?_
    exact r_iret C hw hf dX11_undo_24
  · have hf := ite_f c1 hf
    refine r_iload_n C hl (kx := 1) rfl rfl dX11_undo_5 ?_
    refine r_bipush C (by decide) dX11_undo_6 ?_
    refine r_icmp_gt C (tgt := 22) (by decide) dX11_undo_8 (fun c2 => ?_) (fun c2 => ?_)
    · have hf := ite_t c2 hf
      refine r_bipush C (by decide) dX11_undo_22 ?_
      exact r_iret C hw hf dX11_undo_24
    · have hf := ite_f c2 hf
      refine r_iload_n C hl (kx := 1) rfl rfl dX11_undo_11 ?_
      refine r_aload_n C hl (kx := 0) rfl rfl dX11_undo_12 ?_
      refine gf_11_46 C hw t0 dX11_undo_13 ?_
      obtain ⟨r4, μ3, e5, hf⟩ := bn_some hf
      refine r_callVv C hw (K := []) ok2 (ow_11_8 t0) (c_X2_kept l D b (ow_11_8 t0) e5) mi_X2_kept in_X2_kept se_X2_kept kl_11_192 rfl rfl (lvh_sz hl) (by decide) (Kr := [(0, x1)]) rfl (Nat.le_of_ble_eq_true rfl) dX11_undo_16 (fun H locs hw => ?_)
      refine r_icmp_le C (tgt := 25) (by decide) dX11_undo_19 (fun c6 => ?_) (fun c6 => ?_)
      · have hf := ite_t c6 hf
        refine r_aload_n C hl (kx := 0) rfl rfl dX11_undo_25 ?_
        refine gf_11_46 C hw t0 dX11_undo_26 ?_
        refine r_iload_n C hl (kx := 1) rfl rfl dX11_undo_29 ?_
        refine r_aload_n C hl (kx := 0) rfl rfl dX11_undo_30 ?_
        refine gf_11_36 C hw t0 dX11_undo_31 ?_
        obtain ⟨r8, μ7, e9, hf⟩ := bn_some hf
        refine r_callVn C hw (K := [(0, x1), (2, (x0 + 58))]) ok2 (ow_11_8 t0) (c_X2_bringBack l D b (ow_11_8 t0) e9) mi_X2_bringBack in_X2_bringBack se_X2_bringBack kl_11_195 rfl rfl (lvh_sz hl) (by decide) (Kr := []) rfl (Nat.le_of_ble_eq_true rfl) dX11_undo_34 (fun H locs hw => ?_)
        refine r_aload_n C hl (kx := 0) rfl rfl dX11_undo_37 ?_
        refine gf_11_46 C hw t0 dX11_undo_38 ?_
        obtain ⟨r11, μ10, e12, hf⟩ := bn_some hf
        refine r_callVv C hw (K := []) ok2 (ow_11_8 t0) (c_X2_kept l D b (ow_11_8 t0) e12) mi_X2_kept in_X2_kept se_X2_kept kl_11_192 rfl rfl (lvh_sz hl) (by decide) (Kr := []) rfl (Nat.le_of_ble_eq_true rfl) dX11_undo_41 (fun H locs hw => ?_)
        exact r_iret C hw hf dX11_undo_44
      · have hf := ite_f c6 hf
        refine r_bipush C (by decide) dX11_undo_22 ?_
        exact r_iret C hw hf dX11_undo_24
theorem c_X11_undo (l : Launch) (D : Ds) (b : Nat) {x0 x1 : Int} {μ μ' : Mem} {r : Int} (t0 : isK x0 11) (hf : f_X11_undo x0 x1 μ = some (r, μ')) : Ctr l D b yX11_undo cX11_undo 2 (some .int) 3 [(2, x0), (0, x1)] μ (some (.int (jI r))) μ' := by
  refine Ctr.of (by decide +kernel) (Nat.le_of_ble_eq_true rfl) ?_
  intro p e s m below meth c C hw ls hl
  exact w_X11_undo_0 C hf t0 hw hl
set_option maxHeartbeats 4000000 in
set_option maxRecDepth 20000 in
theorem w_X11_trayOf_0 (C : Cx p s m args meth c D b cX11_trayOf 2 RX11 (some (.object "RutWays$Tray"))) {r : Int} {μ' : Mem} {x0 x1 : Int} {μ : Mem} {H : Heap} {locs : List Loc} {ls : Array Slot} (hf : f_X11_trayOf x0 x1 μ = some (r, μ')) (t0 : isK x0 11) (hw : Hw D b μ s.heap H locs) (hl : lvh b ls 2 [(0, 2, x0), (1, 0, x1)]) : W p l e (rm 0) s m args below meth c H locs 0 0 (QM below args s D b (some (rfv b r)) μ') (F0 m 0 ls []) := by
  unfold f_X11_trayOf at hf
  refine r_iload_n C hl (kx := 1) rfl rfl dX11_trayOf_0 ?_
  refine r_if_lt C (tgt := 13) (by decide) dX11_trayOf_1 (fun c1 => ?_) (fun c1 => ?_)
  · have hf := ite_t c1 hf
    refine r_null C dX11_trayOf_13 ?_
    refine r_goto C (tgt := 23) (by decide) dX11_trayOf_14 ?_
    exact r_aret C hw hf dX11_trayOf_23
  · have hf := ite_f c1 hf
    refine r_iload_n C hl (kx := 1) rfl rfl dX11_trayOf_4 ?_
    refine r_aload_n C hl (kx := 0) rfl rfl dX11_trayOf_5 ?_
    refine gf_11_56 C hw t0 dX11_trayOf_6 ?_
    refine r_alen7 C hw (n := 4) (ow_11_11 t0) (by decide) (z := 4) rfl dX11_trayOf_9 ?_
    refine r_icmp_lt C (tgt := 17) (by decide) dX11_trayOf_10 (fun c2 => ?_) (fun c2 => ?_)
    · have hf := ite_t c2 hf
      refine r_aload_n C hl (kx := 0) rfl rfl dX11_trayOf_17 ?_
      refine gf_11_56 C hw t0 dX11_trayOf_18 ?_
      refine r_iload_n C hl (kx := 1) rfl rfl dX11_trayOf_21 ?_
      obtain ⟨g3, hf⟩ := gd_some hf
      refine r_aald7 C hw (n := 4) (ow_11_11 t0) (j := (nrm x1)) rfl g3 (by decide) dX11_trayOf_22 ?_
      exact r_aret C hw hf dX11_trayOf_23
    · have hf := ite_f c2 hf
      refine r_null C dX11_trayOf_13 ?_
      refine r_goto C (tgt := 23) (by decide) dX11_trayOf_14 ?_
      exact r_aret C hw hf dX11_trayOf_23
theorem c_X11_trayOf (l : Launch) (D : Ds) (b : Nat) {x0 x1 : Int} {μ μ' : Mem} {r : Int} (t0 : isK x0 11) (hf : f_X11_trayOf x0 x1 μ = some (r, μ')) : Ctr l D b yX11_trayOf cX11_trayOf 2 (some (.object "RutWays$Tray")) 0 [(2, x0), (0, x1)] μ (some (rfv b r)) μ' := by
  refine Ctr.of (by decide +kernel) (Nat.le_of_ble_eq_true rfl) ?_
  intro p e s m below meth c C hw ls hl
  exact w_X11_trayOf_0 C hf t0 hw hl
set_option maxHeartbeats 4000000 in
set_option maxRecDepth 20000 in
theorem w_X11_judge_95 (C : Cx p s m args meth c D b cX11_judge 7 RX11 (some .int)) {r : Int} {μ' : Mem} {x0 x2 x4 x5 : Int} {μ : Mem} {H : Heap} {locs : List Loc} {ls : Array Slot} (hf : f_X11_judge_j95 x0 x2 x4 x5 μ = some (r, μ')) (t0 : isK x0 11) (hw : Hw D b μ s.heap H locs) (hl : lvh b ls 7 [(0, 2, x0), (2, 0, x2), (4, 0, x4), (5, 0, x5)]) : W p l e (rm 5) s m args below meth c H locs 0 0 (QM below args s D b (some (.int (jI r))) μ') (F0 m 95 ls []) := by
  unfold f_X11_judge_j95 at hf
  refine r_iload_n C hl (kx := 1) rfl rfl dX11_judge_95 ?_
  rcases Decidable.em (nrm x2 = 0) with c1 | c1
  · have hf := ite_t c1 hf
    refine r_tabIn C (tgt := 124) c1 (by decide) (by decide) rfl (by decide) dX11_judge_96 ?_
    refine r_iload C hl (kx := 3) rfl dX11_judge_124 ?_
    refine r_if_ne C (tgt := 133) (by decide) dX11_judge_126 (fun c2 => ?_) (fun c2 => ?_)
    · have hf := ite_f c2 hf
      refine r_iload C hl (kx := 2) rfl dX11_judge_133 ?_
      exact r_iret C hw hf dX11_judge_135
    · have hf := ite_t c2 hf
      refine r_iconst C dX11_judge_129 ?_
      refine r_goto C (tgt := 135) (by decide) dX11_judge_130 ?_
      exact r_iret C hw hf dX11_judge_135
  have hf := ite_f c1 hf
  rcases Decidable.em (nrm x2 = 1) with c3 | c3
  · have hf := ite_t c3 hf
    refine r_tabIn C (tgt := 136) c3 (by decide) (by decide) rfl (by decide) dX11_judge_96 ?_
    refine r_iload C hl (kx := 3) rfl dX11_judge_136 ?_
    exact r_iret C hw hf dX11_judge_138
  have hf := ite_f c3 hf
  rcases Decidable.em (nrm x2 = 2) with c4 | c4
  · have hf := ite_t c4 hf
    refine r_tabIn C (tgt := 139) c4 (by decide) (by decide) rfl (by decide) dX11_judge_96 ?_
    refine r_aload_n C hl (kx := 0) rfl rfl dX11_judge_139 ?_
    refine gf_11_40 C hw t0 dX11_judge_140 ?_
    refine gf_11_165 C hw (ow_11_7 t0) dX11_judge_143 ?_
    exact r_iret C hw hf dX11_judge_146
  have hf := ite_f c4 hf
  refine r_tabOut C (tgt := 147) (by omega) (by decide) dX11_judge_96 ?_
  refine r_aload_n C hl (kx := 0) rfl rfl dX11_judge_147 ?_
  refine gf_11_40 C hw t0 dX11_judge_148 ?_
  obtain ⟨r6, μ5, e7, hf⟩ := bn_some hf
  refine r_callVv C hw (K := []) ok0 (ow_11_7 t0) (c_X0_allDepths l D b (ow_11_7 t0) e7) mi_X0_allDepths in_X0_allDepths se_X0_allDepths kl_11_214 rfl rfl (lvh_sz hl) (by decide) (Kr := []) rfl (Nat.le_of_ble_eq_true rfl) dX11_judge_151 (fun H locs hw => ?_)
  exact r_iret C hw hf dX11_judge_154
set_option maxHeartbeats 4000000 in
set_option maxRecDepth 20000 in
theorem w_X11_judge_89 (C : Cx p s m args meth c D b cX11_judge 7 RX11 (some .int)) {r : Int} {μ' : Mem} (k52 : Int → Int → Int → Int → Int → Int → Mem → Option (Int × Mem)) (h52 : ∀ (x0 x2 x3 x4 x5 x6 : Int) (μ : Mem) (H : Heap) (locs : List Loc) (ls : Array Slot), k52 x0 x2 x3 x4 x5 x6 μ = some (r, μ') → isK x0 11 → Hw D b μ s.heap H locs → lvh b ls 7 [(0, 2, x0), (2, 0, x2), (3, 2, x3), (4, 0, x4), (5, 0, x5), (6, 0, x6)] → W p l e (rm 5) s m args below meth c H locs 0 0 (QM below args s D b (some (.int (jI r))) μ') (F0 m 52 ls [])) {x0 x2 x3 x4 x5 x6 : Int} {μ : Mem} {H : Heap} {locs : List Loc} {ls : Array Slot} (hf : f_X11_judge_j89 k52 x0 x2 x3 x4 x5 x6 μ = some (r, μ')) (t0 : isK x0 11) (hw : Hw D b μ s.heap H locs) (hl : lvh b ls 7 [(0, 2, x0), (2, 0, x2), (3, 2, x3), (4, 0, x4), (5, 0, x5), (6, 0, x6)]) : W p l e (rm 5) s m args below meth c H locs 0 0 (QM below args s D b (some (.int (jI r))) μ') (F0 m 89 ls []) := by
  unfold f_X11_judge_j89 at hf
  refine r_iinc C hl (kx := 5) rfl (by decide) (L' := [(6, 0, (x6 + 1)), (0, 2, x0), (2, 0, x2), (3, 2, x3), (4, 0, x4), (5, 0, x5)]) rfl dX11_judge_89 (fun ls hl => ?_)
  refine r_goto C (tgt := 52) (by decide) dX11_judge_92 ?_
  exact h52 _ _ _ _ _ _ _ _ _ _ hf t0 hw (lvh_sub hl [1, 2, 3, 4, 5, 0] rfl)
set_option maxHeartbeats 4000000 in
set_option maxRecDepth 20000 in
theorem w_X11_judge_52 (C : Cx p s m args meth c D b cX11_judge 7 RX11 (some .int)) {r : Int} {μ' : Mem} : ∀ (n : Nat) (x0 x2 x3 x4 x5 x6 : Int) (μ : Mem) (H : Heap) (locs : List Loc) (ls : Array Slot), f_X11_judge_w52 n x0 x2 x3 x4 x5 x6 μ = some (r, μ') → isK x0 11 → Hw D b μ s.heap H locs → lvh b ls 7 [(0, 2, x0), (2, 0, x2), (3, 2, x3), (4, 0, x4), (5, 0, x5), (6, 0, x6)] → W p l e (rm 5) s m args below meth c H locs 0 0 (QM below args s D b (some (.int (jI r))) μ') (F0 m 52 ls []) := by
  intro n
  induction n with
  | zero => intro x0 x2 x3 x4 x5 x6 μ H locs ls hf; cases hf
  | succ n ih =>
    intro x0 x2 x3 x4 x5 x6 μ H locs ls hf t0 hw hl
    rw [f_X11_judge_w52.eq_2] at hf
    refine r_iload C hl (kx := 5) rfl dX11_judge_52 ?_
    refine r_aload_n C hl (kx := 2) rfl rfl dX11_judge_54 ?_
    obtain ⟨g1, hf⟩ := gd_some hf
    refine gf_11_207 C hw g1 dX11_judge_55 ?_
    refine r_icmp_ge C (tgt := 95) (by decide) dX11_judge_58 (fun c2 => ?_) (fun c2 => ?_)
    · have hf := ite_t c2 hf
      exact w_X11_judge_95 C hf t0 hw (lvh_sub hl [0, 1, 3, 4] rfl)
    · have hf := ite_f c2 hf
      refine r_iload C hl (kx := 4) rfl dX11_judge_61 ?_
      refine r_if_ne C (tgt := 95) (by decide) dX11_judge_63 (fun c3 => ?_) (fun c3 => ?_)
      · have hf := ite_f c3 hf
        exact w_X11_judge_95 C hf t0 hw (lvh_sub hl [0, 1, 3, 4] rfl)
      · have hf := ite_t c3 hf
        refine r_aload_n C hl (kx := 0) rfl rfl dX11_judge_66 ?_
        refine gf_11_40 C hw t0 dX11_judge_67 ?_
        refine r_aload_n C hl (kx := 2) rfl rfl dX11_judge_70 ?_
        refine r_iload C hl (kx := 5) rfl dX11_judge_71 ?_
        obtain ⟨r5, μ4, e6, hf⟩ := bn_some hf
        refine r_callVv C hw (K := [(0, x6)]) ok10 g1 (c_X10_numberAt l D b g1 e6) mi_X10_numberAt in_X10_numberAt se_X10_numberAt kl_11_210 rfl rfl (lvh_sz hl) (by decide) (Kr := [(2, (x0 + 60))]) rfl (Nat.le_of_ble_eq_true rfl) dX11_judge_73 (fun H locs hw => ?_)
        obtain ⟨r8, μ7, e9, hf⟩ := bn_some hf
        refine r_callVv C hw (K := [(1, r5)]) ok0 (ow_11_7 t0) (c_X0_tryDeed l D b (ow_11_7 t0) e9) mi_X0_tryDeed in_X0_tryDeed se_X0_tryDeed kl_11_180 rfl rfl (lvh_sz hl) (by decide) (Kr := []) rfl (Nat.le_of_ble_eq_true rfl) dX11_judge_76 (fun H locs hw => ?_)
        refine r_istore C hl (by decide) (L' := [(5, 0, r8), (0, 2, x0), (2, 0, x2), (3, 2, x3), (4, 0, x4), (6, 0, x6)]) rfl dX11_judge_79 (fun ls hl => ?_)
        refine r_iload C hl (kx := 0) rfl dX11_judge_81 ?_
        refine r_if_ne C (tgt := 89) (by decide) dX11_judge_83 (fun c10 => ?_) (fun c10 => ?_)
        · have hf := ite_f c10 hf
          exact w_X11_judge_89 C _ ih hf t0 hw (lvh_sub hl [1, 2, 3, 4, 0, 5] rfl)
        · have hf := ite_t c10 hf
          refine r_iinc C hl (kx := 4) rfl (by decide) (L' := [(4, 0, (x4 + 1)), (5, 0, r8), (0, 2, x0), (2, 0, x2), (3, 2, x3), (6, 0, x6)]) rfl dX11_judge_86 (fun ls hl => ?_)
          exact w_X11_judge_89 C _ ih hf t0 hw (lvh_sub hl [2, 3, 4, 0, 1, 5] rfl)
set_option maxHeartbeats 4000000 in
set_option maxRecDepth 20000 in
theorem w_X11_judge_0 (C : Cx p s m args meth c D b cX11_judge 7 RX11 (some .int)) {r : Int} {μ' : Mem} {x0 x1 x2 : Int} {μ : Mem} {H : Heap} {locs : List Loc} {ls : Array Slot} (hf : f_X11_judge x0 x1 x2 μ = some (r, μ')) (t0 : isK x0 11) (hw : Hw D b μ s.heap H locs) (hl : lvh b ls 7 [(0, 2, x0), (1, 0, x1), (2, 0, x2)]) : W p l e (rm 5) s m args below meth c H locs 0 0 (QM below args s D b (some (.int (jI r))) μ') (F0 m 0 ls []) := by
  unfold f_X11_judge at hf
  refine r_aload_n C hl (kx := 0) rfl rfl dX11_judge_0 ?_
  refine r_iload_n C hl (kx := 1) rfl rfl dX11_judge_1 ?_
  obtain ⟨r2, μ1, e3, hf⟩ := bn_some hf
  refine r_callVv C hw (K := [(0, x1)]) ok11 t0 (c_X11_trayOf l D b t0 e3) mi_X11_trayOf in_X11_trayOf se_X11_trayOf kl_11_199 rfl rfl (lvh_sz hl) (by decide) (Kr := []) rfl (Nat.le_of_ble_eq_true rfl) dX11_judge_2 (fun H locs hw => ?_)
  refine r_astore_n C hl (by decide) (L' := [(3, 2, r2), (0, 2, x0), (1, 0, x1), (2, 0, x2)]) rfl rfl dX11_judge_5 (fun ls hl => ?_)
  refine r_aload_n C hl (kx := 0) rfl rfl dX11_judge_6 ?_
  refine r_ifnull C (tgt := 19) (by decide) dX11_judge_7 (fun c4 => ?_) (fun c4 => ?_)
  · have hf := ite_t c4 hf
    refine r_bipush C (by decide) dX11_judge_19 ?_
    exact r_iret C hw hf dX11_judge_21
  · have hf := ite_f c4 hf
    refine r_iload_n C hl (kx := 3) rfl rfl dX11_judge_10 ?_
    refine r_if_lt C (tgt := 19) (by decide) dX11_judge_11 (fun c5 => ?_) (fun c5 => ?_)
    · have hf := ite_t c5 hf
      refine r_bipush C (by decide) dX11_judge_19 ?_
      exact r_iret C hw hf dX11_judge_21
    · have hf := ite_f c5 hf
      refine r_iload_n C hl (kx := 3) rfl rfl dX11_judge_14 ?_
      refine r_iconst C dX11_judge_15 ?_
      refine r_icmp_le C (tgt := 22) (by decide) dX11_judge_16 (fun c6 => ?_) (fun c6 => ?_)
      · have hf := ite_t c6 hf
        refine r_aload_n C hl (kx := 0) rfl rfl dX11_judge_22 ?_
        obtain ⟨g7, hf⟩ := gd_some hf
        refine gf_11_203 C hw g7 dX11_judge_23 ?_
        refine r_if_eq C (tgt := 32) (by decide) dX11_judge_26 (fun c8 => ?_) (fun c8 => ?_)
        · have hf := ite_t c8 hf
          refine r_aload_n C hl (kx := 1) rfl rfl dX11_judge_32 ?_
          refine gf_11_40 C hw t0 dX11_judge_33 ?_
          refine r_aload_n C hl (kx := 1) rfl rfl dX11_judge_36 ?_
          refine gf_11_36 C hw t0 dX11_judge_37 ?_
          obtain ⟨r10, μ9, e11, hf⟩ := bn_some hf
          refine r_callVn C hw (K := [(2, (x0 + 58))]) ok0 (ow_11_7 t0) (c_X0_takeOver l D b (ow_11_7 t0) e11) mi_X0_takeOver in_X0_takeOver se_X0_takeOver kl_11_189 rfl rfl (lvh_sz hl) (by decide) (Kr := []) rfl (Nat.le_of_ble_eq_true rfl) dX11_judge_40 (fun H locs hw => ?_)
          refine r_iconst C dX11_judge_43 ?_
          refine r_istore C hl (by decide) (L' := [(4, 0, 0), (3, 2, r2), (0, 2, x0), (1, 0, x1), (2, 0, x2)]) rfl dX11_judge_44 (fun ls hl => ?_)
          refine r_iconst C dX11_judge_46 ?_
          refine r_istore C hl (by decide) (L' := [(5, 0, 0), (4, 0, 0), (3, 2, r2), (0, 2, x0), (1, 0, x1), (2, 0, x2)]) rfl dX11_judge_47 (fun ls hl => ?_)
          refine r_iconst C dX11_judge_49 ?_
          refine r_istore C hl (by decide) (L' := [(6, 0, 0), (5, 0, 0), (4, 0, 0), (3, 2, r2), (0, 2, x0), (1, 0, x1), (2, 0, x2)]) rfl dX11_judge_50 (fun ls hl => ?_)
          exact w_X11_judge_52 C FU _ _ _ _ _ _ _ _ _ _ hf t0 hw (lvh_sub hl [4, 6, 3, 2, 1, 0] rfl)
        · have hf := ite_f c8 hf
          refine r_bipush C (by decide) dX11_judge_29 ?_
          exact r_iret C hw hf dX11_judge_31
      · have hf := ite_f c6 hf
        refine r_bipush C (by decide) dX11_judge_19 ?_
        exact r_iret C hw hf dX11_judge_21
theorem c_X11_judge (l : Launch) (D : Ds) (b : Nat) {x0 x1 x2 : Int} {μ μ' : Mem} {r : Int} (t0 : isK x0 11) (hf : f_X11_judge x0 x1 x2 μ = some (r, μ')) : Ctr l D b yX11_judge cX11_judge 7 (some .int) 5 [(2, x0), (0, x1), (0, x2)] μ (some (.int (jI r))) μ' := by
  refine Ctr.of (by decide +kernel) (Nat.le_of_ble_eq_true rfl) ?_
  intro p e s m below meth c C hw ls hl
  exact w_X11_judge_0 C hf t0 hw hl
set_option maxHeartbeats 4000000 in
set_option maxRecDepth 20000 in
theorem w_X11_perform_65 (C : Cx p s m args meth c D b cX11_perform 4 RX11 (some .int)) {r : Int} {μ' : Mem} {x0 x3 : Int} {μ : Mem} {H : Heap} {locs : List Loc} {ls : Array Slot} (hf : f_X11_perform_j65 x0 x3 μ = some (r, μ')) (t0 : isK x0 11) (hw : Hw D b μ s.heap H locs) (hl : lvh b ls 4 [(0, 2, x0), (3, 0, x3)]) : W p l e (rm 5) s m args below meth c H locs 0 0 (QM below args s D b (some (.int (jI r))) μ') (F0 m 65 ls []) := by
  unfold f_X11_perform_j65 at hf
  refine r_iload_n C hl (kx := 1) rfl rfl dX11_perform_65 ?_
  refine r_if_le C (tgt := 80) (by decide) dX11_perform_66 (fun c1 => ?_) (fun c1 => ?_)
  · have hf := ite_t c1 hf
    refine r_iload_n C hl (kx := 1) rfl rfl dX11_perform_80 ?_
    exact r_iret C hw hf dX11_perform_81
  · have hf := ite_f c1 hf
    refine r_aload_n C hl (kx := 0) rfl rfl dX11_perform_69 ?_
    refine gf_11_46 C hw t0 dX11_perform_70 ?_
    refine r_aload_n C hl (kx := 0) rfl rfl dX11_perform_73 ?_
    refine gf_11_40 C hw t0 dX11_perform_74 ?_
    obtain ⟨r3, μ2, e4, hf⟩ := bn_some hf
    refine r_callVn C hw (K := [(2, (x0 + 60))]) ok2 (ow_11_8 t0) (c_X2_keep l D b (ow_11_8 t0) e4) mi_X2_keep in_X2_keep se_X2_keep kl_11_174 rfl rfl (lvh_sz hl) (by decide) (Kr := []) rfl (Nat.le_of_ble_eq_true rfl) dX11_perform_77 (fun H locs hw => ?_)
    refine r_iload_n C hl (kx := 1) rfl rfl dX11_perform_80 ?_
    exact r_iret C hw hf dX11_perform_81
set_option maxHeartbeats 4000000 in
set_option maxRecDepth 20000 in
theorem w_X11_perform_36 (C : Cx p s m args meth c D b cX11_perform 4 RX11 (some .int)) {r : Int} {μ' : Mem} : ∀ (n : Nat) (x0 x2 x3 : Int) (μ : Mem) (H : Heap) (locs : List Loc) (ls : Array Slot), f_X11_perform_w36 n x0 x2 x3 μ = some (r, μ') → isK x0 11 → Hw D b μ s.heap H locs → lvh b ls 4 [(0, 2, x0), (2, 2, x2), (3, 0, x3)] → W p l e (rm 5) s m args below meth c H locs 0 0 (QM below args s D b (some (.int (jI r))) μ') (F0 m 36 ls []) := by
  intro n
  induction n with
  | zero => intro x0 x2 x3 μ H locs ls hf; cases hf
  | succ n ih =>
    intro x0 x2 x3 μ H locs ls hf t0 hw hl
    rw [f_X11_perform_w36.eq_2] at hf
    refine r_iload_n C hl (kx := 2) rfl rfl dX11_perform_36 ?_
    refine r_aload_n C hl (kx := 1) rfl rfl dX11_perform_37 ?_
    obtain ⟨g1, hf⟩ := gd_some hf
    refine gf_11_207 C hw g1 dX11_perform_38 ?_
    refine r_icmp_ge C (tgt := 65) (by decide) dX11_perform_41 (fun c2 => ?_) (fun c2 => ?_)
    · have hf := ite_t c2 hf
      exact w_X11_perform_65 C hf t0 hw (lvh_sub hl [0, 2] rfl)
    · have hf := ite_f c2 hf
      refine r_aload_n C hl (kx := 0) rfl rfl dX11_perform_44 ?_
      refine gf_11_36 C hw t0 dX11_perform_45 ?_
      refine r_aload_n C hl (kx := 1) rfl rfl dX11_perform_48 ?_
      refine r_iload_n C hl (kx := 2) rfl rfl dX11_perform_49 ?_
      obtain ⟨r4, μ3, e5, hf⟩ := bn_some hf
      refine r_callVv C hw (K := [(0, x3)]) ok10 g1 (c_X10_numberAt l D b g1 e5) mi_X10_numberAt in_X10_numberAt se_X10_numberAt kl_11_210 rfl rfl (lvh_sz hl) (by decide) (Kr := [(2, (x0 + 58))]) rfl (Nat.le_of_ble_eq_true rfl) dX11_perform_50 (fun H locs hw => ?_)
      obtain ⟨r7, μ6, e8, hf⟩ := bn_some hf
      refine r_callVv C hw (K := [(1, r4)]) ok0 (ow_11_6 t0) (c_X0_tryDeed l D b (ow_11_6 t0) e8) mi_X0_tryDeed in_X0_tryDeed se_X0_tryDeed kl_11_180 rfl rfl (lvh_sz hl) (by decide) (Kr := []) rfl (Nat.le_of_ble_eq_true rfl) dX11_perform_53 (fun H locs hw => ?_)
      refine r_if_ne C (tgt := 65) (by decide) dX11_perform_56 (fun c9 => ?_) (fun c9 => ?_)
      · have hf := ite_f c9 hf
        exact w_X11_perform_65 C hf t0 hw (lvh_sub hl [0, 2] rfl)
      · have hf := ite_t c9 hf
        refine r_iinc C hl (kx := 2) rfl (by decide) (L' := [(3, 0, (x3 + 1)), (0, 2, x0), (2, 2, x2)]) rfl dX11_perform_59 (fun ls hl => ?_)
        refine r_goto C (tgt := 36) (by decide) dX11_perform_62 ?_
        exact ih _ _ _ _ _ _ _ hf t0 hw (lvh_sub hl [1, 2, 0] rfl)
set_option maxHeartbeats 4000000 in
set_option maxRecDepth 20000 in
theorem w_X11_perform_0 (C : Cx p s m args meth c D b cX11_perform 4 RX11 (some .int)) {r : Int} {μ' : Mem} {x0 x1 : Int} {μ : Mem} {H : Heap} {locs : List Loc} {ls : Array Slot} (hf : f_X11_perform x0 x1 μ = some (r, μ')) (t0 : isK x0 11) (hw : Hw D b μ s.heap H locs) (hl : lvh b ls 4 [(0, 2, x0), (1, 0, x1)]) : W p l e (rm 5) s m args below meth c H locs 0 0 (QM below args s D b (some (.int (jI r))) μ') (F0 m 0 ls []) := by
  unfold f_X11_perform at hf
  refine r_aload_n C hl (kx := 0) rfl rfl dX11_perform_0 ?_
  refine r_iload_n C hl (kx := 1) rfl rfl dX11_perform_1 ?_
  obtain ⟨r2, μ1, e3, hf⟩ := bn_some hf
  refine r_callVv C hw (K := [(0, x1)]) ok11 t0 (c_X11_trayOf l D b t0 e3) mi_X11_trayOf in_X11_trayOf se_X11_trayOf kl_11_199 rfl rfl (lvh_sz hl) (by decide) (Kr := []) rfl (Nat.le_of_ble_eq_true rfl) dX11_perform_2 (fun H locs hw => ?_)
  refine r_astore_n C hl (by decide) (L' := [(2, 2, r2), (0, 2, x0), (1, 0, x1)]) rfl rfl dX11_perform_5 (fun ls hl => ?_)
  refine r_aload_n C hl (kx := 0) rfl rfl dX11_perform_6 ?_
  refine r_ifnonnull C (tgt := 13) (by decide) dX11_perform_7 (fun c4 => ?_) (fun c4 => ?_)
  · have hf := ite_f c4 hf
    refine r_aload_n C hl (kx := 0) rfl rfl dX11_perform_13 ?_
    obtain ⟨g5, hf⟩ := gd_some hf
    refine gf_11_203 C hw g5 dX11_perform_14 ?_
    refine r_if_eq C (tgt := 23) (by decide) dX11_perform_17 (fun c6 => ?_) (fun c6 => ?_)
    · have hf := ite_t c6 hf
      refine r_aload_n C hl (kx := 1) rfl rfl dX11_perform_23 ?_
      refine gf_11_40 C hw t0 dX11_perform_24 ?_
      refine r_aload_n C hl (kx := 1) rfl rfl dX11_perform_27 ?_
      refine gf_11_36 C hw t0 dX11_perform_28 ?_
      obtain ⟨r8, μ7, e9, hf⟩ := bn_some hf
      refine r_callVn C hw (K := [(2, (x0 + 58))]) ok0 (ow_11_7 t0) (c_X0_takeOver l D b (ow_11_7 t0) e9) mi_X0_takeOver in_X0_takeOver se_X0_takeOver kl_11_189 rfl rfl (lvh_sz hl) (by decide) (Kr := []) rfl (Nat.le_of_ble_eq_true rfl) dX11_perform_31 (fun H locs hw => ?_)
      refine r_iconst C dX11_perform_34 ?_
      refine r_istore_n C hl (by decide) (L' := [(3, 0, 0), (2, 2, r2), (0, 2, x0), (1, 0, x1)]) rfl rfl dX11_perform_35 (fun ls hl => ?_)
      exact w_X11_perform_36 C FU _ _ _ _ _ _ _ hf t0 hw (lvh_sub hl [2, 1, 0] rfl)
    · have hf := ite_f c6 hf
      refine r_bipush C (by decide) dX11_perform_20 ?_
      exact r_iret C hw hf dX11_perform_22
  · have hf := ite_t c4 hf
    refine r_bipush C (by decide) dX11_perform_10 ?_
    exact r_iret C hw hf dX11_perform_12
theorem c_X11_perform (l : Launch) (D : Ds) (b : Nat) {x0 x1 : Int} {μ μ' : Mem} {r : Int} (t0 : isK x0 11) (hf : f_X11_perform x0 x1 μ = some (r, μ')) : Ctr l D b yX11_perform cX11_perform 4 (some .int) 5 [(2, x0), (0, x1)] μ (some (.int (jI r))) μ' := by
  refine Ctr.of (by decide +kernel) (Nat.le_of_ble_eq_true rfl) ?_
  intro p e s m below meth c C hw ls hl
  exact w_X11_perform_0 C hf t0 hw hl
set_option maxHeartbeats 4000000 in
set_option maxRecDepth 20000 in
theorem w_X11_drawBehind_0 (C : Cx p s m args meth c D b cX11_drawBehind 1 RX11 (some .int)) {r : Int} {μ' : Mem} {x0 : Int} {μ : Mem} {H : Heap} {locs : List Loc} {ls : Array Slot} (hf : f_X11_drawBehind x0 μ = some (r, μ')) (hw : Hw D b μ s.heap H locs) (hl : lvh b ls 1 [(0, 0, x0)]) : W p l e (rm 0) s m args below meth c H locs 0 0 (QM below args s D b (some (.int (jI r))) μ') (F0 m 0 ls []) := by
  unfold f_X11_drawBehind at hf
  refine r_ldc C (z := 1103515245) (by decide) kw1035 dX11_drawBehind_0 ?_
  refine r_iload_n C hl (kx := 0) rfl rfl dX11_drawBehind_2 ?_
  refine r_imul C dX11_drawBehind_3 ?_
  refine r_sipush C (by decide) dX11_drawBehind_4 ?_
  refine r_iadd C dX11_drawBehind_7 ?_
  exact r_iret C hw hf dX11_drawBehind_8
theorem c_X11_drawBehind (l : Launch) (D : Ds) (b : Nat) {x0 : Int} {μ μ' : Mem} {r : Int} (hf : f_X11_drawBehind x0 μ = some (r, μ')) : Ctr l D b yX11_drawBehind cX11_drawBehind 1 (some .int) 0 [(0, x0)] μ (some (.int (jI r))) μ' := by
  refine Ctr.of (by decide +kernel) (Nat.le_of_ble_eq_true rfl) ?_
  intro p e s m below meth c C hw ls hl
  exact w_X11_drawBehind_0 C hf hw hl
set_option maxHeartbeats 4000000 in
set_option maxRecDepth 20000 in
theorem w_X11_drawnDeed_0 (C : Cx p s m args meth c D b cX11_drawnDeed 2 RX11 (some .int)) {r : Int} {μ' : Mem} {x0 x1 : Int} {μ : Mem} {H : Heap} {locs : List Loc} {ls : Array Slot} (hf : f_X11_drawnDeed x0 x1 μ = some (r, μ')) (hw : Hw D b μ s.heap H locs) (hl : lvh b ls 2 [(0, 0, x0), (1, 0, x1)]) : W p l e (rm 0) s m args below meth c H locs 0 0 (QM below args s D b (some (.int (jI r))) μ') (F0 m 0 ls []) := by
  unfold f_X11_drawnDeed at hf
  refine r_iload_n C hl (kx := 0) rfl rfl dX11_drawnDeed_0 ?_
  rcases Decidable.em (nrm x0 = 3) with c1 | c1
  · have hf := ite_t c1 hf
    refine r_tabIn C (tgt := 32) c1 (by decide) (by decide) rfl (by decide) dX11_drawnDeed_1 ?_
    refine r_bipush C (by decide) dX11_drawnDeed_32 ?_
    refine r_iload_n C hl (kx := 1) rfl rfl dX11_drawnDeed_34 ?_
    refine r_bipush C (by decide) dX11_drawnDeed_35 ?_
    refine r_irem C (by decide) dX11_drawnDeed_37 ?_
    refine r_iadd C dX11_drawnDeed_38 ?_
    exact r_iret C hw hf dX11_drawnDeed_39
  have hf := ite_f c1 hf
  rcases Decidable.em (nrm x0 = 4) with c2 | c2
  · have hf := ite_t c2 hf
    refine r_tabIn C (tgt := 40) c2 (by decide) (by decide) rfl (by decide) dX11_drawnDeed_1 ?_
    refine r_bipush C (by decide) dX11_drawnDeed_40 ?_
    refine r_iload_n C hl (kx := 1) rfl rfl dX11_drawnDeed_42 ?_
    refine r_bipush C (by decide) dX11_drawnDeed_43 ?_
    refine r_irem C (by decide) dX11_drawnDeed_45 ?_
    refine r_iadd C dX11_drawnDeed_46 ?_
    exact r_iret C hw hf dX11_drawnDeed_47
  have hf := ite_f c2 hf
  rcases Decidable.em (nrm x0 = 5) with c3 | c3
  · have hf := ite_t c3 hf
    refine r_tabIn C (tgt := 48) c3 (by decide) (by decide) rfl (by decide) dX11_drawnDeed_1 ?_
    refine r_bipush C (by decide) dX11_drawnDeed_48 ?_
    refine r_iload_n C hl (kx := 1) rfl rfl dX11_drawnDeed_50 ?_
    refine r_bipush C (by decide) dX11_drawnDeed_51 ?_
    refine r_irem C (by decide) dX11_drawnDeed_53 ?_
    refine r_iadd C dX11_drawnDeed_54 ?_
    exact r_iret C hw hf dX11_drawnDeed_55
  have hf := ite_f c3 hf
  rcases Decidable.em (nrm x0 = 6) with c4 | c4
  · have hf := ite_t c4 hf
    refine r_tabIn C (tgt := 56) c4 (by decide) (by decide) rfl (by decide) dX11_drawnDeed_1 ?_
    refine r_bipush C (by decide) dX11_drawnDeed_56 ?_
    refine r_iload_n C hl (kx := 1) rfl rfl dX11_drawnDeed_58 ?_
    refine r_bipush C (by decide) dX11_drawnDeed_59 ?_
    refine r_irem C (by decide) dX11_drawnDeed_61 ?_
    refine r_iadd C dX11_drawnDeed_62 ?_
    exact r_iret C hw hf dX11_drawnDeed_63
  have hf := ite_f c4 hf
  refine r_tabOut C (tgt := 64) (by omega) (by decide) dX11_drawnDeed_1 ?_
  refine r_iconst C dX11_drawnDeed_64 ?_
  refine r_iload_n C hl (kx := 1) rfl rfl dX11_drawnDeed_65 ?_
  refine r_bipush C (by decide) dX11_drawnDeed_66 ?_
  refine r_irem C (by decide) dX11_drawnDeed_68 ?_
  refine r_iadd C dX11_drawnDeed_69 ?_
  exact r_iret C hw hf dX11_drawnDeed_70
theorem c_X11_drawnDeed (l : Launch) (D : Ds) (b : Nat) {x0 x1 : Int} {μ μ' : Mem} {r : Int} (hf : f_X11_drawnDeed x0 x1 μ = some (r, μ')) : Ctr l D b yX11_drawnDeed cX11_drawnDeed 2 (some .int) 0 [(0, x0), (0, x1)] μ (some (.int (jI r))) μ' := by
  refine Ctr.of (by decide +kernel) (Nat.le_of_ble_eq_true rfl) ?_
  intro p e s m below meth c C hw ls hl
  exact w_X11_drawnDeed_0 C hf hw hl
set_option maxHeartbeats 4000000 in
set_option maxRecDepth 20000 in
theorem w_X11_year_96 (C : Cx p s m args meth c D b cX11_year 8 RX11 (some .int)) {r : Int} {μ' : Mem} (k33 : Int → Int → Int → Int → Int → Mem → Option (Int × Mem)) (h33 : ∀ (x0 x2 x3 x4 x5 : Int) (μ : Mem) (H : Heap) (locs : List Loc) (ls : Array Slot), k33 x0 x2 x3 x4 x5 μ = some (r, μ') → isK x0 11 → Hw D b μ s.heap H locs → lvh b ls 8 [(0, 2, x0), (2, 0, x2), (3, 0, x3), (4, 0, x4), (5, 0, x5)] → W p l e (rm 5) s m args below meth c H locs 0 0 (QM below args s D b (some (.int (jI r))) μ') (F0 m 33 ls [])) {x0 x2 x3 x4 x5 : Int} {μ : Mem} {H : Heap} {locs : List Loc} {ls : Array Slot} (hf : f_X11_year_j96 k33 x0 x2 x3 x4 x5 μ = some (r, μ')) (t0 : isK x0 11) (hw : Hw D b μ s.heap H locs) (hl : lvh b ls 8 [(0, 2, x0), (2, 0, x2), (3, 0, x3), (4, 0, x4), (5, 0, x5)]) : W p l e (rm 5) s m args below meth c H locs 0 0 (QM below args s D b (some (.int (jI r))) μ') (F0 m 96 ls []) := by
  unfold f_X11_year_j96 at hf
  refine r_iinc C hl (kx := 4) rfl (by decide) (L' := [(5, 0, (x5 + 1)), (0, 2, x0), (2, 0, x2), (3, 0, x3), (4, 0, x4)]) rfl dX11_year_96 (fun ls hl => ?_)
  refine r_goto C (tgt := 33) (by decide) dX11_year_99 ?_
  exact h33 _ _ _ _ _ _ _ _ _ hf t0 hw (lvh_sub hl [1, 2, 3, 4, 0] rfl)
set_option maxHeartbeats 4000000 in
set_option maxRecDepth 20000 in
theorem w_X11_year_80 (C : Cx p s m args meth c D b cX11_year 8 RX11 (some .int)) {r : Int} {μ' : Mem} (k33 : Int → Int → Int → Int → Int → Mem → Option (Int × Mem)) (h33 : ∀ (x0 x2 x3 x4 x5 : Int) (μ : Mem) (H : Heap) (locs : List Loc) (ls : Array Slot), k33 x0 x2 x3 x4 x5 μ = some (r, μ') → isK x0 11 → Hw D b μ s.heap H locs → lvh b ls 8 [(0, 2, x0), (2, 0, x2), (3, 0, x3), (4, 0, x4), (5, 0, x5)] → W p l e (rm 5) s m args below meth c H locs 0 0 (QM below args s D b (some (.int (jI r))) μ') (F0 m 33 ls [])) {x0 x2 x3 x4 x5 x7 : Int} {μ : Mem} {H : Heap} {locs : List Loc} {ls : Array Slot} (hf : f_X11_year_j80 k33 x0 x2 x3 x4 x5 x7 μ = some (r, μ')) (t0 : isK x0 11) (hw : Hw D b μ s.heap H locs) (hl : lvh b ls 8 [(0, 2, x0), (2, 0, x2), (3, 0, x3), (4, 0, x4), (5, 0, x5), (7, 0, x7)]) : W p l e (rm 5) s m args below meth c H locs 0 0 (QM below args s D b (some (.int (jI r))) μ') (F0 m 80 ls []) := by
  unfold f_X11_year_j80 at hf
  refine r_aload_n C hl (kx := 0) rfl rfl dX11_year_80 ?_
  refine gf_11_36 C hw t0 dX11_year_81 ?_
  refine r_iload C hl (kx := 5) rfl dX11_year_84 ?_
  refine r_i2l C dX11_year_86 ?_
  obtain ⟨r2, μ1, e3, hf⟩ := bn_some hf
  refine r_callVv C hw (K := [(1, (nrm x7))]) ok0 (ow_11_6 t0) (c_X0_tryDeed l D b (ow_11_6 t0) e3) mi_X0_tryDeed in_X0_tryDeed se_X0_tryDeed kl_11_180 rfl rfl (lvh_sz hl) (by decide) (Kr := []) rfl (Nat.le_of_ble_eq_true rfl) dX11_year_87 (fun H locs hw => ?_)
  refine r_if_ne C (tgt := 96) (by decide) dX11_year_90 (fun c4 => ?_) (fun c4 => ?_)
  · have hf := ite_f c4 hf
    exact w_X11_year_96 C _ h33 hf t0 hw (lvh_sub hl [0, 1, 2, 3, 4] rfl)
  · have hf := ite_t c4 hf
    refine r_iinc C hl (kx := 3) rfl (by decide) (L' := [(4, 0, (x4 + 1)), (0, 2, x0), (2, 0, x2), (3, 0, x3), (5, 0, x5), (7, 0, x7)]) rfl dX11_year_93 (fun ls hl => ?_)
    exact w_X11_year_96 C _ h33 hf t0 hw (lvh_sub hl [1, 2, 3, 0, 4] rfl)
set_option maxHeartbeats 4000000 in
set_option maxRecDepth 20000 in
theorem w_X11_year_33 (C : Cx p s m args meth c D b cX11_year 8 RX11 (some .int)) {r : Int} {μ' : Mem} : ∀ (n : Nat) (x0 x2 x3 x4 x5 : Int) (μ : Mem) (H : Heap) (locs : List Loc) (ls : Array Slot), f_X11_year_w33 n x0 x2 x3 x4 x5 μ = some (r, μ') → isK x0 11 → Hw D b μ s.heap H locs → lvh b ls 8 [(0, 2, x0), (2, 0, x2), (3, 0, x3), (4, 0, x4), (5, 0, x5)] → W p l e (rm 5) s m args below meth c H locs 0 0 (QM below args s D b (some (.int (jI r))) μ') (F0 m 33 ls []) := by
  intro n
  induction n with
  | zero => intro x0 x2 x3 x4 x5 μ H locs ls hf; cases hf
  | succ n ih =>
    intro x0 x2 x3 x4 x5 μ H locs ls hf t0 hw hl
    rw [f_X11_year_w33.eq_2] at hf
    refine r_iload C hl (kx := 4) rfl dX11_year_33 ?_
    refine r_iload_n C hl (kx := 1) rfl rfl dX11_year_35 ?_
    refine r_icmp_ge C (tgt := 102) (by decide) dX11_year_36 (fun c1 => ?_) (fun c1 => ?_)
    · have hf := ite_t c1 hf
      refine r_iload C hl (kx := 3) rfl dX11_year_102 ?_
      refine r_if_le C (tgt := 118) (by decide) dX11_year_104 (fun c2 => ?_) (fun c2 => ?_)
      · have hf := ite_t c2 hf
        refine r_iload C hl (kx := 3) rfl dX11_year_118 ?_
        exact r_iret C hw hf dX11_year_120
      · have hf := ite_f c2 hf
        refine r_aload_n C hl (kx := 0) rfl rfl dX11_year_107 ?_
        refine gf_11_46 C hw t0 dX11_year_108 ?_
        refine r_aload_n C hl (kx := 0) rfl rfl dX11_year_111 ?_
        refine gf_11_40 C hw t0 dX11_year_112 ?_
        obtain ⟨r4, μ3, e5, hf⟩ := bn_some hf
        refine r_callVn C hw (K := [(2, (x0 + 60))]) ok2 (ow_11_8 t0) (c_X2_keep l D b (ow_11_8 t0) e5) mi_X2_keep in_X2_keep se_X2_keep kl_11_174 rfl rfl (lvh_sz hl) (by decide) (Kr := []) rfl (Nat.le_of_ble_eq_true rfl) dX11_year_115 (fun H locs hw => ?_)
        refine r_iload C hl (kx := 3) rfl dX11_year_118 ?_
        exact r_iret C hw hf dX11_year_120
    · have hf := ite_f c1 hf
      refine r_iload_n C hl (kx := 2) rfl rfl dX11_year_39 ?_
      obtain ⟨r7, μ6, e8, hf⟩ := bn_some hf
      refine r_callSv C hw (K := [(0, x3)]) (c_X11_drawBehind l D b e8) mi_X11_drawBehind st_X11_drawBehind kl_11_217 rfl rfl (lvh_sz hl) (by decide) (Kr := []) rfl (Nat.le_of_ble_eq_true rfl) dX11_year_40 (fun H locs hw => ?_)
      refine r_istore_n C hl (by decide) (L' := [(3, 0, r7), (0, 2, x0), (2, 0, x2), (4, 0, x4), (5, 0, x5)]) rfl rfl dX11_year_43 (fun ls hl => ?_)
      refine r_iload_n C hl (kx := 0) rfl rfl dX11_year_44 ?_
      refine r_bipush C (by decide) dX11_year_45 ?_
      refine r_iushr C dX11_year_47 ?_
      refine r_bipush C (by decide) dX11_year_48 ?_
      refine r_irem C (by decide) dX11_year_50 ?_
      obtain ⟨v9, e10, hf⟩ := nm_some hf
      refine top_i e10 ?_
      refine r_istore C hl (by decide) (L' := [(6, 0, v9), (3, 0, r7), (0, 2, x0), (2, 0, x2), (4, 0, x4), (5, 0, x5)]) rfl dX11_year_51 (fun ls hl => ?_)
      refine r_bipush C (by decide) dX11_year_53 ?_
      refine r_istore C hl (by decide) (L' := [(7, 0, 50), (6, 0, v9), (3, 0, r7), (0, 2, x0), (2, 0, x2), (4, 0, x4), (5, 0, x5)]) rfl dX11_year_55 (fun ls hl => ?_)
      refine r_iload C hl (kx := 1) rfl dX11_year_57 ?_
      refine r_bipush C (by decide) dX11_year_59 ?_
      refine r_icmp_eq C (tgt := 80) (by decide) dX11_year_61 (fun c11 => ?_) (fun c11 => ?_)
      · have hf := ite_t c11 hf
        exact w_X11_year_80 C _ ih hf t0 hw (lvh_sub hl [3, 4, 2, 5, 6, 0] rfl)
      · have hf := ite_f c11 hf
        refine r_iload_n C hl (kx := 2) rfl rfl dX11_year_64 ?_
        obtain ⟨r13, μ12, e14, hf⟩ := bn_some hf
        refine r_callSv C hw (K := [(0, r7)]) (c_X11_drawBehind l D b e14) mi_X11_drawBehind st_X11_drawBehind kl_11_217 rfl rfl (lvh_sz hl) (by decide) (Kr := []) rfl (Nat.le_of_ble_eq_true rfl) dX11_year_65 (fun H locs hw => ?_)
        refine r_istore_n C hl (by decide) (L' := [(3, 0, r13), (7, 0, 50), (6, 0, v9), (0, 2, x0), (2, 0, x2), (4, 0, x4), (5, 0, x5)]) rfl rfl dX11_year_68 (fun ls hl => ?_)
        refine r_iload C hl (kx := 2) rfl dX11_year_69 ?_
        refine r_iload_n C hl (kx := 0) rfl rfl dX11_year_71 ?_
        refine r_bipush C (by decide) dX11_year_72 ?_
        refine r_iushr C dX11_year_74 ?_
        obtain ⟨r16, μ15, e17, hf⟩ := bn_some hf
        refine r_callSv C hw (K := [(0, v9), (0, (jushr r13 16))]) (c_X11_drawnDeed l D b e17) mi_X11_drawnDeed st_X11_drawnDeed kl_11_220 rfl rfl (lvh_sz hl) (by decide) (Kr := []) rfl (Nat.le_of_ble_eq_true rfl) dX11_year_75 (fun H locs hw => ?_)
        refine r_istore C hl (by decide) (L' := [(7, 0, r16), (3, 0, r13), (6, 0, v9), (0, 2, x0), (2, 0, x2), (4, 0, x4), (5, 0, x5)]) rfl dX11_year_78 (fun ls hl => ?_)
        exact w_X11_year_80 C _ ih hf t0 hw (lvh_sub hl [3, 4, 1, 5, 6, 0] rfl)
set_option maxHeartbeats 4000000 in
set_option maxRecDepth 20000 in
theorem w_X11_year_0 (C : Cx p s m args meth c D b cX11_year 8 RX11 (some .int)) {r : Int} {μ' : Mem} {x0 x1 x2 : Int} {μ : Mem} {H : Heap} {locs : List Loc} {ls : Array Slot} (hf : f_X11_year x0 x1 x2 μ = some (r, μ')) (t0 : isK x0 11) (hw : Hw D b μ s.heap H locs) (hl : lvh b ls 8 [(0, 2, x0), (1, 0, x1), (2, 0, x2)]) : W p l e (rm 5) s m args below meth c H locs 0 0 (QM below args s D b (some (.int (jI r))) μ') (F0 m 0 ls []) := by
  unfold f_X11_year at hf
  refine r_iload_n C hl (kx := 2) rfl rfl dX11_year_0 ?_
  refine r_iconst C dX11_year_1 ?_
  refine r_icmp_lt C (tgt := 11) (by decide) dX11_year_2 (fun c1 => ?_) (fun c1 => ?_)
  · have hf := ite_t c1 hf
    refine r_bipush C (by decide) dX11_year_11 ?_
    exact r_iret C hw hf dX11_year_13
  · have hf := ite_f c1 hf
    refine r_iload_n C hl (kx := 2) rfl rfl dX11_year_5 ?_
    refine r_bipush C (by decide) dX11_year_6 ?_
    refine r_icmp_le C (tgt := 14) (by decide) dX11_year_8 (fun c2 => ?_) (fun c2 => ?_)
    · have hf := ite_t c2 hf
      refine r_aload_n C hl (kx := 0) rfl rfl dX11_year_14 ?_
      refine gf_11_40 C hw t0 dX11_year_15 ?_
      refine r_aload_n C hl (kx := 0) rfl rfl dX11_year_18 ?_
      refine gf_11_36 C hw t0 dX11_year_19 ?_
      obtain ⟨r4, μ3, e5, hf⟩ := bn_some hf
      refine r_callVn C hw (K := [(2, (x0 + 58))]) ok0 (ow_11_7 t0) (c_X0_takeOver l D b (ow_11_7 t0) e5) mi_X0_takeOver in_X0_takeOver se_X0_takeOver kl_11_189 rfl rfl (lvh_sz hl) (by decide) (Kr := []) rfl (Nat.le_of_ble_eq_true rfl) dX11_year_22 (fun H locs hw => ?_)
      refine r_iload_n C hl (kx := 1) rfl rfl dX11_year_25 ?_
      refine r_istore_n C hl (by decide) (L' := [(3, 0, x1), (0, 2, x0), (1, 0, x1), (2, 0, x2)]) rfl rfl dX11_year_26 (fun ls hl => ?_)
      refine r_iconst C dX11_year_27 ?_
      refine r_istore C hl (by decide) (L' := [(4, 0, 0), (3, 0, x1), (0, 2, x0), (1, 0, x1), (2, 0, x2)]) rfl dX11_year_28 (fun ls hl => ?_)
      refine r_iconst C dX11_year_30 ?_
      refine r_istore C hl (by decide) (L' := [(5, 0, 0), (4, 0, 0), (3, 0, x1), (0, 2, x0), (1, 0, x1), (2, 0, x2)]) rfl dX11_year_31 (fun ls hl => ?_)
      exact w_X11_year_33 C FU _ _ _ _ _ _ _ _ _ hf t0 hw (lvh_sub hl [3, 5, 2, 1, 0] rfl)
    · have hf := ite_f c2 hf
      refine r_bipush C (by decide) dX11_year_11 ?_
      exact r_iret C hw hf dX11_year_13
theorem c_X11_year (l : Launch) (D : Ds) (b : Nat) {x0 x1 x2 : Int} {μ μ' : Mem} {r : Int} (t0 : isK x0 11) (hf : f_X11_year x0 x1 x2 μ = some (r, μ')) : Ctr l D b yX11_year cX11_year 8 (some .int) 5 [(2, x0), (0, x1), (0, x2)] μ (some (.int (jI r))) μ' := by
  refine Ctr.of (by decide +kernel) (Nat.le_of_ble_eq_true rfl) ?_
  intro p e s m below meth c C hw ls hl
  exact w_X11_year_0 C hf t0 hw hl
set_option maxHeartbeats 4000000 in
set_option maxRecDepth 20000 in
theorem w_X11_reach_0 (C : Cx p s m args meth c D b cX11_reach 1 RX11 (some .int)) {r : Int} {μ' : Mem} {x0 : Int} {μ : Mem} {H : Heap} {locs : List Loc} {ls : Array Slot} (hf : f_X11_reach x0 μ = some (r, μ')) (t0 : isK x0 11) (hw : Hw D b μ s.heap H locs) (hl : lvh b ls 1 [(0, 2, x0)]) : W p l e (rm 4) s m args below meth c H locs 0 0 (QM below args s D b (some (.int (jI r))) μ') (F0 m 0 ls []) := by
  unfold f_X11_reach at hf
  refine r_aload_n C hl (kx := 0) rfl rfl dX11_reach_0 ?_
  refine gf_11_36 C hw t0 dX11_reach_1 ?_
  refine gf_11_120 C hw (ow_11_6 t0) dX11_reach_4 ?_
  refine r_aload_n C hl (kx := 0) rfl rfl dX11_reach_7 ?_
  refine gf_11_36 C hw t0 dX11_reach_8 ?_
  refine gf_11_165 C hw (ow_11_6 t0) dX11_reach_11 ?_
  refine r_aload_n C hl (kx := 0) rfl rfl dX11_reach_14 ?_
  refine gf_11_36 C hw t0 dX11_reach_15 ?_
  obtain ⟨r2, μ1, e3, hf⟩ := bn_some hf
  refine r_callVv C hw (K := []) ok0 (ow_11_6 t0) (c_X0_openLanes l D b (ow_11_6 t0) e3) mi_X0_openLanes in_X0_openLanes se_X0_openLanes kl_11_224 rfl rfl (lvh_sz hl) (by decide) (Kr := [(0, (μ (x0 + 58) 1)), (2, (μ (x0 + 58) 0))]) rfl (Nat.le_of_ble_eq_true rfl) dX11_reach_18 (fun H locs hw => ?_)
  obtain ⟨g4, hf⟩ := gd_some hf
  obtain ⟨r6, μ5, e7, hf⟩ := bn_some hf
  refine r_callVv C hw (K := [(0, (μ (x0 + 58) 1)), (0, r2)]) ok3 g4 (c_X3_comingFrom l D b g4 e7) mi_X3_comingFrom in_X3_comingFrom se_X3_comingFrom kl_11_227 rfl rfl (lvh_sz hl) (by decide) (Kr := []) rfl (Nat.le_of_ble_eq_true rfl) dX11_reach_21 (fun H locs hw => ?_)
  exact r_iret C hw hf dX11_reach_24
theorem c_X11_reach (l : Launch) (D : Ds) (b : Nat) {x0 : Int} {μ μ' : Mem} {r : Int} (t0 : isK x0 11) (hf : f_X11_reach x0 μ = some (r, μ')) : Ctr l D b yX11_reach cX11_reach 1 (some .int) 4 [(2, x0)] μ (some (.int (jI r))) μ' := by
  refine Ctr.of (by decide +kernel) (Nat.le_of_ble_eq_true rfl) ?_
  intro p e s m below meth c C hw ls hl
  exact w_X11_reach_0 C hf t0 hw hl
set_option maxHeartbeats 4000000 in
set_option maxRecDepth 20000 in
theorem w_X11_soonest_0 (C : Cx p s m args meth c D b cX11_soonest 2 RX11 (some .int)) {r : Int} {μ' : Mem} {x0 x1 : Int} {μ : Mem} {H : Heap} {locs : List Loc} {ls : Array Slot} (hf : f_X11_soonest x0 x1 μ = some (r, μ')) (t0 : isK x0 11) (hw : Hw D b μ s.heap H locs) (hl : lvh b ls 2 [(0, 2, x0), (1, 0, x1)]) : W p l e (rm 5) s m args below meth c H locs 0 0 (QM below args s D b (some (.int (jI r))) μ') (F0 m 0 ls []) := by
  unfold f_X11_soonest at hf
  refine r_aload_n C hl (kx := 0) rfl rfl dX11_soonest_0 ?_
  refine gf_11_36 C hw t0 dX11_soonest_1 ?_
  refine gf_11_120 C hw (ow_11_6 t0) dX11_soonest_4 ?_
  refine r_iload_n C hl (kx := 1) rfl rfl dX11_soonest_7 ?_
  obtain ⟨g1, hf⟩ := gd_some hf
  obtain ⟨r3, μ2, e4, hf⟩ := bn_some hf
  refine r_callVv C hw (K := [(0, x1)]) ok3 g1 (c_X3_hasPlace l D b g1 e4) mi_X3_hasPlace in_X3_hasPlace se_X3_hasPlace kl_11_230 rfl rfl (lvh_sz hl) (by decide) (Kr := []) rfl (Nat.le_of_ble_eq_true rfl) dX11_soonest_8 (fun H locs hw => ?_)
  refine r_if_ne C (tgt := 17) (by decide) dX11_soonest_11 (fun c5 => ?_) (fun c5 => ?_)
  · have hf := ite_f c5 hf
    refine r_aload_n C hl (kx := 0) rfl rfl dX11_soonest_17 ?_
    refine gf_11_64 C hw t0 dX11_soonest_18 ?_
    refine r_aload_n C hl (kx := 0) rfl rfl dX11_soonest_21 ?_
    refine gf_11_36 C hw t0 dX11_soonest_22 ?_
    refine r_iload_n C hl (kx := 1) rfl rfl dX11_soonest_25 ?_
    obtain ⟨r7, μ6, e8, hf⟩ := bn_some hf
    refine r_callVn C hw (K := [(2, (x0 + 58)), (0, x1)]) ok6 (ow_11_12 t0) (c_X6_measureOpen l D b (ow_11_12 t0) e8) mi_X6_measureOpen in_X6_measureOpen se_X6_measureOpen kl_11_233 rfl rfl (lvh_sz hl) (by decide) (Kr := []) rfl (Nat.le_of_ble_eq_true rfl) dX11_soonest_26 (fun H locs hw => ?_)
    refine r_aload_n C hl (kx := 0) rfl rfl dX11_soonest_29 ?_
    refine gf_11_64 C hw t0 dX11_soonest_30 ?_
    refine r_aload_n C hl (kx := 0) rfl rfl dX11_soonest_33 ?_
    refine gf_11_36 C hw t0 dX11_soonest_34 ?_
    refine gf_11_165 C hw (ow_11_6 t0) dX11_soonest_37 ?_
    obtain ⟨r10, μ9, e11, hf⟩ := bn_some hf
    refine r_callVv C hw (K := [(0, (μ6 (x0 + 58) 1))]) ok6 (ow_11_12 t0) (c_X6_farFrom l D b (ow_11_12 t0) e11) mi_X6_farFrom in_X6_farFrom se_X6_farFrom kl_11_237 rfl rfl (lvh_sz hl) (by decide) (Kr := []) rfl (Nat.le_of_ble_eq_true rfl) dX11_soonest_40 (fun H locs hw => ?_)
    exact r_iret C hw hf dX11_soonest_43
  · have hf := ite_t c5 hf
    refine r_bipush C (by decide) dX11_soonest_14 ?_
    exact r_iret C hw hf dX11_soonest_16
theorem c_X11_soonest (l : Launch) (D : Ds) (b : Nat) {x0 x1 : Int} {μ μ' : Mem} {r : Int} (t0 : isK x0 11) (hf : f_X11_soonest x0 x1 μ = some (r, μ')) : Ctr l D b yX11_soonest cX11_soonest 2 (some .int) 5 [(2, x0), (0, x1)] μ (some (.int (jI r))) μ' := by
  refine Ctr.of (by decide +kernel) (Nat.le_of_ble_eq_true rfl) ?_
  intro p e s m below meth c C hw ls hl
  exact w_X11_soonest_0 C hf t0 hw hl
set_option maxHeartbeats 4000000 in
set_option maxRecDepth 20000 in
theorem w_X11_rows_0 (C : Cx p s m args meth c D b cX11_rows 3 RX11 (some .int)) {r : Int} {μ' : Mem} {x0 x1 x2 : Int} {μ : Mem} {H : Heap} {locs : List Loc} {ls : Array Slot} (hf : f_X11_rows x0 x1 x2 μ = some (r, μ')) (t0 : isK x0 11) (hw : Hw D b μ s.heap H locs) (hl : lvh b ls 3 [(0, 2, x0), (1, 0, x1), (2, 0, x2)]) : W p l e (rm 69) s m args below meth c H locs 0 0 (QM below args s D b (some (.int (jI r))) μ') (F0 m 0 ls []) := by
  unfold f_X11_rows at hf
  refine r_aload_n C hl (kx := 0) rfl rfl dX11_rows_0 ?_
  refine gf_11_36 C hw t0 dX11_rows_1 ?_
  refine gf_11_120 C hw (ow_11_6 t0) dX11_rows_4 ?_
  refine r_iload_n C hl (kx := 1) rfl rfl dX11_rows_7 ?_
  obtain ⟨g1, hf⟩ := gd_some hf
  obtain ⟨r3, μ2, e4, hf⟩ := bn_some hf
  refine r_callVv C hw (K := [(0, x1)]) ok3 g1 (c_X3_hasPlace l D b g1 e4) mi_X3_hasPlace in_X3_hasPlace se_X3_hasPlace kl_11_230 rfl rfl (lvh_sz hl) (by decide) (Kr := []) rfl (Nat.le_of_ble_eq_true rfl) dX11_rows_8 (fun H locs hw => ?_)
  refine r_if_ne C (tgt := 17) (by decide) dX11_rows_11 (fun c5 => ?_) (fun c5 => ?_)
  · have hf := ite_f c5 hf
    refine r_iload_n C hl (kx := 2) rfl rfl dX11_rows_17 ?_
    refine r_if_lt C (tgt := 27) (by decide) dX11_rows_18 (fun c6 => ?_) (fun c6 => ?_)
    · have hf := ite_t c6 hf
      refine r_bipush C (by decide) dX11_rows_27 ?_
      exact r_iret C hw hf dX11_rows_29
    · have hf := ite_f c6 hf
      refine r_iload_n C hl (kx := 2) rfl rfl dX11_rows_21 ?_
      refine r_bipush C (by decide) dX11_rows_22 ?_
      refine r_icmp_le C (tgt := 30) (by decide) dX11_rows_24 (fun c7 => ?_) (fun c7 => ?_)
      · have hf := ite_t c7 hf
        refine r_aload_n C hl (kx := 0) rfl rfl dX11_rows_30 ?_
        refine gf_11_64 C hw t0 dX11_rows_31 ?_
        refine r_aload_n C hl (kx := 0) rfl rfl dX11_rows_34 ?_
        refine gf_11_36 C hw t0 dX11_rows_35 ?_
        refine r_iload_n C hl (kx := 1) rfl rfl dX11_rows_38 ?_
        obtain ⟨r9, μ8, e10, hf⟩ := bn_some hf
        refine r_callVn C hw (K := [(2, (x0 + 58)), (0, x1)]) ok6 (ow_11_12 t0) (c_X6_measureOpen l D b (ow_11_12 t0) e10) mi_X6_measureOpen in_X6_measureOpen se_X6_measureOpen kl_11_233 rfl rfl (lvh_sz hl) (by decide) (Kr := []) rfl (Nat.le_of_ble_eq_true rfl) dX11_rows_39 (fun H locs hw => ?_)
        refine r_aload_n C hl (kx := 0) rfl rfl dX11_rows_42 ?_
        refine gf_11_71 C hw t0 dX11_rows_43 ?_
        refine r_aload_n C hl (kx := 0) rfl rfl dX11_rows_46 ?_
        refine gf_11_36 C hw t0 dX11_rows_47 ?_
        refine r_aload_n C hl (kx := 0) rfl rfl dX11_rows_50 ?_
        refine gf_11_64 C hw t0 dX11_rows_51 ?_
        refine r_iload_n C hl (kx := 1) rfl rfl dX11_rows_54 ?_
        refine r_iload_n C hl (kx := 2) rfl rfl dX11_rows_55 ?_
        obtain ⟨r12, μ11, e13, hf⟩ := bn_some hf
        refine r_callVv C hw (K := [(2, (x0 + 58)), (2, (x0 + 98)), (0, x1), (0, x2)]) ok8 (ow_11_13 t0) (c_X8_countRows l D b (ow_11_13 t0) e13) mi_X8_countRows in_X8_countRows se_X8_countRows kl_11_240 rfl rfl (lvh_sz hl) (by decide) (Kr := []) rfl (Nat.le_of_ble_eq_true rfl) dX11_rows_56 (fun H locs hw => ?_)
        exact r_iret C hw hf dX11_rows_59
      · have hf := ite_f c7 hf
        refine r_bipush C (by decide) dX11_rows_27 ?_
        exact r_iret C hw hf dX11_rows_29
  · have hf := ite_t c5 hf
    refine r_bipush C (by decide) dX11_rows_14 ?_
    exact r_iret C hw hf dX11_rows_16
theorem c_X11_rows (l : Launch) (D : Ds) (b : Nat) {x0 x1 x2 : Int} {μ μ' : Mem} {r : Int} (t0 : isK x0 11) (hf : f_X11_rows x0 x1 x2 μ = some (r, μ')) : Ctr l D b yX11_rows cX11_rows 3 (some .int) 69 [(2, x0), (0, x1), (0, x2)] μ (some (.int (jI r))) μ' := by
  refine Ctr.of (by decide +kernel) (Nat.le_of_ble_eq_true rfl) ?_
  intro p e s m below meth c C hw ls hl
  exact w_X11_rows_0 C hf t0 hw hl
set_option maxHeartbeats 4000000 in
set_option maxRecDepth 20000 in
theorem w_X11_way_0 (C : Cx p s m args meth c D b cX11_way 3 RX11 (some .int)) {r : Int} {μ' : Mem} {x0 x1 x2 : Int} {μ : Mem} {H : Heap} {locs : List Loc} {ls : Array Slot} (hf : f_X11_way x0 x1 x2 μ = some (r, μ')) (t0 : isK x0 11) (hw : Hw D b μ s.heap H locs) (hl : lvh b ls 3 [(0, 2, x0), (1, 0, x1), (2, 0, x2)]) : W p l e (rm 5) s m args below meth c H locs 0 0 (QM below args s D b (some (.int (jI r))) μ') (F0 m 0 ls []) := by
  unfold f_X11_way at hf
  refine r_aload_n C hl (kx := 0) rfl rfl dX11_way_0 ?_
  refine gf_11_36 C hw t0 dX11_way_1 ?_
  refine gf_11_120 C hw (ow_11_6 t0) dX11_way_4 ?_
  refine r_iload_n C hl (kx := 1) rfl rfl dX11_way_7 ?_
  obtain ⟨g1, hf⟩ := gd_some hf
  obtain ⟨r3, μ2, e4, hf⟩ := bn_some hf
  refine r_callVv C hw (K := [(0, x1)]) ok3 g1 (c_X3_hasPlace l D b g1 e4) mi_X3_hasPlace in_X3_hasPlace se_X3_hasPlace kl_11_230 rfl rfl (lvh_sz hl) (by decide) (Kr := []) rfl (Nat.le_of_ble_eq_true rfl) dX11_way_8 (fun H locs hw => ?_)
  refine r_if_ne C (tgt := 17) (by decide) dX11_way_11 (fun c5 => ?_) (fun c5 => ?_)
  · have hf := ite_f c5 hf
    refine r_iload_n C hl (kx := 2) rfl rfl dX11_way_17 ?_
    refine r_if_ge C (tgt := 24) (by decide) dX11_way_18 (fun c6 => ?_) (fun c6 => ?_)
    · have hf := ite_t c6 hf
      refine r_aload_n C hl (kx := 0) rfl rfl dX11_way_24 ?_
      refine gf_11_64 C hw t0 dX11_way_25 ?_
      refine r_aload_n C hl (kx := 0) rfl rfl dX11_way_28 ?_
      refine gf_11_36 C hw t0 dX11_way_29 ?_
      refine r_iload_n C hl (kx := 1) rfl rfl dX11_way_32 ?_
      obtain ⟨r8, μ7, e9, hf⟩ := bn_some hf
      refine r_callVn C hw (K := [(2, (x0 + 58)), (0, x1)]) ok6 (ow_11_12 t0) (c_X6_measureOpen l D b (ow_11_12 t0) e9) mi_X6_measureOpen in_X6_measureOpen se_X6_measureOpen kl_11_233 rfl rfl (lvh_sz hl) (by decide) (Kr := []) rfl (Nat.le_of_ble_eq_true rfl) dX11_way_33 (fun H locs hw => ?_)
      refine r_aload_n C hl (kx := 0) rfl rfl dX11_way_36 ?_
      refine gf_11_64 C hw t0 dX11_way_37 ?_
      refine r_aload_n C hl (kx := 0) rfl rfl dX11_way_40 ?_
      refine gf_11_36 C hw t0 dX11_way_41 ?_
      refine gf_11_120 C hw (ow_11_6 t0) dX11_way_44 ?_
      refine r_aload_n C hl (kx := 0) rfl rfl dX11_way_47 ?_
      refine gf_11_36 C hw t0 dX11_way_48 ?_
      refine gf_11_165 C hw (ow_11_6 t0) dX11_way_51 ?_
      refine r_iload_n C hl (kx := 2) rfl rfl dX11_way_54 ?_
      obtain ⟨r11, μ10, e12, hf⟩ := bn_some hf
      refine r_callVv C hw (K := [(2, (μ7 (x0 + 58) 0)), (0, (μ7 (x0 + 58) 1)), (0, x2)]) ok6 (ow_11_12 t0) (c_X6_laneOnWay l D b (ow_11_12 t0) e12) mi_X6_laneOnWay in_X6_laneOnWay se_X6_laneOnWay kl_11_244 rfl rfl (lvh_sz hl) (by decide) (Kr := []) rfl (Nat.le_of_ble_eq_true rfl) dX11_way_55 (fun H locs hw => ?_)
      exact r_iret C hw hf dX11_way_58
    · have hf := ite_f c6 hf
      refine r_bipush C (by decide) dX11_way_21 ?_
      exact r_iret C hw hf dX11_way_23
  · have hf := ite_t c5 hf
    refine r_bipush C (by decide) dX11_way_14 ?_
    exact r_iret C hw hf dX11_way_16
theorem c_X11_way (l : Launch) (D : Ds) (b : Nat) {x0 x1 x2 : Int} {μ μ' : Mem} {r : Int} (t0 : isK x0 11) (hf : f_X11_way x0 x1 x2 μ = some (r, μ')) : Ctr l D b yX11_way cX11_way 3 (some .int) 5 [(2, x0), (0, x1), (0, x2)] μ (some (.int (jI r))) μ' := by
  refine Ctr.of (by decide +kernel) (Nat.le_of_ble_eq_true rfl) ?_
  intro p e s m below meth c C hw ls hl
  exact w_X11_way_0 C hf t0 hw hl
set_option maxHeartbeats 4000000 in
set_option maxRecDepth 20000 in
theorem w_X11_toAndFro_29 (C : Cx p s m args meth c D b cX11_toAndFro 4 RX11 (some .int)) {r : Int} {μ' : Mem} : ∀ (n : Nat) (x0 x1 x2 x3 : Int) (μ : Mem) (H : Heap) (locs : List Loc) (ls : Array Slot), f_X11_toAndFro_w29 n x0 x1 x2 x3 μ = some (r, μ') → isK x0 11 → Hw D b μ s.heap H locs → lvh b ls 4 [(0, 2, x0), (1, 0, x1), (2, 0, x2), (3, 0, x3)] → W p l e (rm 3) s m args below meth c H locs 0 0 (QM below args s D b (some (.int (jI r))) μ') (F0 m 29 ls []) := by
  intro n
  induction n with
  | zero => intro x0 x1 x2 x3 μ H locs ls hf; cases hf
  | succ n ih =>
    intro x0 x1 x2 x3 μ H locs ls hf t0 hw hl
    rw [f_X11_toAndFro_w29.eq_2] at hf
    refine r_iload_n C hl (kx := 3) rfl rfl dX11_toAndFro_29 ?_
    refine r_bipush C (by decide) dX11_toAndFro_30 ?_
    refine r_icmp_ge C (tgt := 80) (by decide) dX11_toAndFro_32 (fun c1 => ?_) (fun c1 => ?_)
    · have hf := ite_t c1 hf
      refine r_iload_n C hl (kx := 3) rfl rfl dX11_toAndFro_80 ?_
      exact r_iret C hw hf dX11_toAndFro_81
    · have hf := ite_f c1 hf
      refine r_aload_n C hl (kx := 0) rfl rfl dX11_toAndFro_35 ?_
      refine gf_11_36 C hw t0 dX11_toAndFro_36 ?_
      refine gf_11_120 C hw (ow_11_6 t0) dX11_toAndFro_39 ?_
      refine r_iload_n C hl (kx := 1) rfl rfl dX11_toAndFro_42 ?_
      refine r_iload_n C hl (kx := 2) rfl rfl dX11_toAndFro_43 ?_
      refine r_aload_n C hl (kx := 0) rfl rfl dX11_toAndFro_44 ?_
      refine gf_11_36 C hw t0 dX11_toAndFro_45 ?_
      obtain ⟨g2, hf⟩ := gd_some hf
      obtain ⟨r4, μ3, e5, hf⟩ := bn_some hf
      refine r_callVv C hw (K := [(0, x1), (0, x2), (2, (x0 + 58))]) ok3 g2 (c_X3_mayGo l D b g2 e5) mi_X3_mayGo in_X3_mayGo se_X3_mayGo kl_11_248 rfl rfl (lvh_sz hl) (by decide) (Kr := []) rfl (Nat.le_of_ble_eq_true rfl) dX11_toAndFro_48 (fun H locs hw => ?_)
      refine r_if_eq C (tgt := 80) (by decide) dX11_toAndFro_51 (fun c6 => ?_) (fun c6 => ?_)
      · have hf := ite_t c6 hf
        refine r_iload_n C hl (kx := 3) rfl rfl dX11_toAndFro_80 ?_
        exact r_iret C hw hf dX11_toAndFro_81
      · have hf := ite_f c6 hf
        refine r_aload_n C hl (kx := 0) rfl rfl dX11_toAndFro_54 ?_
        refine gf_11_36 C hw t0 dX11_toAndFro_55 ?_
        refine gf_11_120 C hw (ow_11_6 t0) dX11_toAndFro_58 ?_
        refine r_iload_n C hl (kx := 1) rfl rfl dX11_toAndFro_61 ?_
        refine r_iload_n C hl (kx := 2) rfl rfl dX11_toAndFro_62 ?_
        refine r_aload_n C hl (kx := 0) rfl rfl dX11_toAndFro_63 ?_
        refine gf_11_36 C hw t0 dX11_toAndFro_64 ?_
        refine gf_11_151 C hw (ow_11_6 t0) dX11_toAndFro_67 ?_
        obtain ⟨g7, hf⟩ := gd_some hf
        obtain ⟨r9, μ8, e10, hf⟩ := bn_some hf
        refine r_callVv C hw (K := [(0, x1), (0, x2), (0, (μ3 (x0 + 58) 2))]) ok3 g7 (c_X3_wornFrom l D b g7 e10) mi_X3_wornFrom in_X3_wornFrom se_X3_wornFrom kl_11_154 rfl rfl (lvh_sz hl) (by decide) (Kr := []) rfl (Nat.le_of_ble_eq_true rfl) dX11_toAndFro_70 (fun H locs hw => ?_)
        refine r_istore_n C hl (by decide) (L' := [(2, 0, r9), (0, 2, x0), (1, 0, x1), (3, 0, x3)]) rfl rfl dX11_toAndFro_73 (fun ls hl => ?_)
        refine r_iinc C hl (kx := 3) rfl (by decide) (L' := [(3, 0, (x3 + 1)), (2, 0, r9), (0, 2, x0), (1, 0, x1)]) rfl dX11_toAndFro_74 (fun ls hl => ?_)
        refine r_goto C (tgt := 29) (by decide) dX11_toAndFro_77 ?_
        exact ih _ _ _ _ _ _ _ _ hf t0 hw (lvh_sub hl [2, 3, 1, 0] rfl)
set_option maxHeartbeats 4000000 in
set_option maxRecDepth 20000 in
theorem w_X11_toAndFro_0 (C : Cx p s m args meth c D b cX11_toAndFro 4 RX11 (some .int)) {r : Int} {μ' : Mem} {x0 x1 : Int} {μ : Mem} {H : Heap} {locs : List Loc} {ls : Array Slot} (hf : f_X11_toAndFro x0 x1 μ = some (r, μ')) (t0 : isK x0 11) (hw : Hw D b μ s.heap H locs) (hl : lvh b ls 4 [(0, 2, x0), (1, 0, x1)]) : W p l e (rm 3) s m args below meth c H locs 0 0 (QM below args s D b (some (.int (jI r))) μ') (F0 m 0 ls []) := by
  unfold f_X11_toAndFro at hf
  refine r_aload_n C hl (kx := 0) rfl rfl dX11_toAndFro_0 ?_
  refine gf_11_36 C hw t0 dX11_toAndFro_1 ?_
  refine gf_11_120 C hw (ow_11_6 t0) dX11_toAndFro_4 ?_
  refine r_iload_n C hl (kx := 1) rfl rfl dX11_toAndFro_7 ?_
  obtain ⟨g1, hf⟩ := gd_some hf
  obtain ⟨r3, μ2, e4, hf⟩ := bn_some hf
  refine r_callVv C hw (K := [(0, x1)]) ok3 g1 (c_X3_hasLane l D b g1 e4) mi_X3_hasLane in_X3_hasLane se_X3_hasLane kl_11_124 rfl rfl (lvh_sz hl) (by decide) (Kr := []) rfl (Nat.le_of_ble_eq_true rfl) dX11_toAndFro_8 (fun H locs hw => ?_)
  refine r_if_ne C (tgt := 17) (by decide) dX11_toAndFro_11 (fun c5 => ?_) (fun c5 => ?_)
  · have hf := ite_f c5 hf
    refine r_aload_n C hl (kx := 0) rfl rfl dX11_toAndFro_17 ?_
    refine gf_11_36 C hw t0 dX11_toAndFro_18 ?_
    refine gf_11_135 C hw (ow_11_6 t0) dX11_toAndFro_21 ?_
    refine r_iload_n C hl (kx := 1) rfl rfl dX11_toAndFro_24 ?_
    obtain ⟨g6, hf⟩ := gd_some hf
    refine r_iald C hw (n := 9) (ow_0_5 (ow_11_6 t0)) (j := (nrm x1)) rfl g6 (by decide) dX11_toAndFro_25 ?_
    obtain ⟨v7, e8, hf⟩ := nm_some hf
    refine top_i e8 ?_
    refine r_istore_n C hl (by decide) (L' := [(2, 0, v7), (0, 2, x0), (1, 0, x1)]) rfl rfl dX11_toAndFro_26 (fun ls hl => ?_)
    refine r_iconst C dX11_toAndFro_27 ?_
    refine r_istore_n C hl (by decide) (L' := [(3, 0, 0), (2, 0, v7), (0, 2, x0), (1, 0, x1)]) rfl rfl dX11_toAndFro_28 (fun ls hl => ?_)
    exact w_X11_toAndFro_29 C FU _ _ _ _ _ _ _ _ hf t0 hw (lvh_sub hl [2, 3, 1, 0] rfl)
  · have hf := ite_t c5 hf
    refine r_bipush C (by decide) dX11_toAndFro_14 ?_
    exact r_iret C hw hf dX11_toAndFro_16
theorem c_X11_toAndFro (l : Launch) (D : Ds) (b : Nat) {x0 x1 : Int} {μ μ' : Mem} {r : Int} (t0 : isK x0 11) (hf : f_X11_toAndFro x0 x1 μ = some (r, μ')) : Ctr l D b yX11_toAndFro cX11_toAndFro 4 (some .int) 3 [(2, x0), (0, x1)] μ (some (.int (jI r))) μ' := by
  refine Ctr.of (by decide +kernel) (Nat.le_of_ble_eq_true rfl) ?_
  intro p e s m below meth c C hw ls hl
  exact w_X11_toAndFro_0 C hf t0 hw hl
set_option maxHeartbeats 4000000 in
set_option maxRecDepth 20000 in
theorem w_X11_cheapest_0 (C : Cx p s m args meth c D b cX11_cheapest 4 RX11 (some .int)) {r : Int} {μ' : Mem} {x0 x1 x2 : Int} {μ : Mem} {H : Heap} {locs : List Loc} {ls : Array Slot} (hf : f_X11_cheapest x0 x1 x2 μ = some (r, μ')) (t0 : isK x0 11) (hw : Hw D b μ s.heap H locs) (hl : lvh b ls 4 [(0, 2, x0), (1, 0, x1), (2, 0, x2)]) : W p l e (rm 6) s m args below meth c H locs 0 0 (QM below args s D b (some (.int (jI r))) μ') (F0 m 0 ls []) := by
  unfold f_X11_cheapest at hf
  refine r_aload_n C hl (kx := 0) rfl rfl dX11_cheapest_0 ?_
  refine gf_11_36 C hw t0 dX11_cheapest_1 ?_
  refine gf_11_120 C hw (ow_11_6 t0) dX11_cheapest_4 ?_
  refine r_iload_n C hl (kx := 1) rfl rfl dX11_cheapest_7 ?_
  obtain ⟨g1, hf⟩ := gd_some hf
  obtain ⟨r3, μ2, e4, hf⟩ := bn_some hf
  refine r_callVv C hw (K := [(0, x1)]) ok3 g1 (c_X3_hasPlace l D b g1 e4) mi_X3_hasPlace in_X3_hasPlace se_X3_hasPlace kl_11_230 rfl rfl (lvh_sz hl) (by decide) (Kr := []) rfl (Nat.le_of_ble_eq_true rfl) dX11_cheapest_8 (fun H locs hw => ?_)
  refine r_if_eq C (tgt := 23) (by decide) dX11_cheapest_11 (fun c5 => ?_) (fun c5 => ?_)
  · have hf := ite_t c5 hf
    refine r_bipush C (by decide) dX11_cheapest_23 ?_
    exact r_iret C hw hf dX11_cheapest_25
  · have hf := ite_f c5 hf
    refine r_iload_n C hl (kx := 2) rfl rfl dX11_cheapest_14 ?_
    refine r_if_lt C (tgt := 23) (by decide) dX11_cheapest_15 (fun c6 => ?_) (fun c6 => ?_)
    · have hf := ite_t c6 hf
      refine r_bipush C (by decide) dX11_cheapest_23 ?_
      exact r_iret C hw hf dX11_cheapest_25
    · have hf := ite_f c6 hf
      refine r_iload_n C hl (kx := 2) rfl rfl dX11_cheapest_18 ?_
      refine r_iconst C dX11_cheapest_19 ?_
      refine r_icmp_le C (tgt := 26) (by decide) dX11_cheapest_20 (fun c7 => ?_) (fun c7 => ?_)
      · have hf := ite_t c7 hf
        refine r_aload_n C hl (kx := 0) rfl rfl dX11_cheapest_26 ?_
        refine gf_11_64 C hw t0 dX11_cheapest_27 ?_
        refine r_aload_n C hl (kx := 0) rfl rfl dX11_cheapest_30 ?_
        refine gf_11_36 C hw t0 dX11_cheapest_31 ?_
        refine r_iload_n C hl (kx := 1) rfl rfl dX11_cheapest_34 ?_
        obtain ⟨r9, μ8, e10, hf⟩ := bn_some hf
        refine r_callVn C hw (K := [(2, (x0 + 58)), (0, x1)]) ok6 (ow_11_12 t0) (c_X6_measureFillings l D b (ow_11_12 t0) e10) mi_X6_measureFillings in_X6_measureFillings se_X6_measureFillings kl_11_252 rfl rfl (lvh_sz hl) (by decide) (Kr := []) rfl (Nat.le_of_ble_eq_true rfl) dX11_cheapest_35 (fun H locs hw => ?_)
        refine r_aload_n C hl (kx := 0) rfl rfl dX11_cheapest_38 ?_
        refine gf_11_64 C hw t0 dX11_cheapest_39 ?_
        refine r_aload_n C hl (kx := 0) rfl rfl dX11_cheapest_42 ?_
        refine gf_11_36 C hw t0 dX11_cheapest_43 ?_
        refine gf_11_165 C hw (ow_11_6 t0) dX11_cheapest_46 ?_
        obtain ⟨r12, μ11, e13, hf⟩ := bn_some hf
        refine r_callVv C hw (K := [(0, (μ8 (x0 + 58) 1))]) ok6 (ow_11_12 t0) (c_X6_farFrom l D b (ow_11_12 t0) e13) mi_X6_farFrom in_X6_farFrom se_X6_farFrom kl_11_237 rfl rfl (lvh_sz hl) (by decide) (Kr := []) rfl (Nat.le_of_ble_eq_true rfl) dX11_cheapest_49 (fun H locs hw => ?_)
        refine r_istore_n C hl (by decide) (L' := [(3, 0, r12), (0, 2, x0), (1, 0, x1), (2, 0, x2)]) rfl rfl dX11_cheapest_52 (fun ls hl => ?_)
        refine r_iload_n C hl (kx := 0) rfl rfl dX11_cheapest_53 ?_
        refine r_iconst C dX11_cheapest_54 ?_
        refine r_icmp_ne C (tgt := 60) (by decide) dX11_cheapest_55 (fun c14 => ?_) (fun c14 => ?_)
        · have hf := ite_f c14 hf
          refine r_iload_n C hl (kx := 3) rfl rfl dX11_cheapest_60 ?_
          refine r_if_ne C (tgt := 71) (by decide) dX11_cheapest_61 (fun c15 => ?_) (fun c15 => ?_)
          · have hf := ite_f c15 hf
            refine r_iload_n C hl (kx := 0) rfl rfl dX11_cheapest_71 ?_
            obtain ⟨r17, μ16, e18, hf⟩ := bn_some hf
            refine r_callSv C hw (K := [(0, r12)]) (c_X6_lanesIn l D b e18) mi_X6_lanesIn st_X6_lanesIn kl_11_258 rfl rfl (lvh_sz hl) (by decide) (Kr := []) rfl (Nat.le_of_ble_eq_true rfl) dX11_cheapest_72 (fun H locs hw => ?_)
            exact r_iret C hw hf dX11_cheapest_75
          · have hf := ite_t c15 hf
            refine r_iload_n C hl (kx := 0) rfl rfl dX11_cheapest_64 ?_
            obtain ⟨r20, μ19, e21, hf⟩ := bn_some hf
            refine r_callSv C hw (K := [(0, r12)]) (c_X6_fillingsIn l D b e21) mi_X6_fillingsIn st_X6_fillingsIn kl_11_255 rfl rfl (lvh_sz hl) (by decide) (Kr := []) rfl (Nat.le_of_ble_eq_true rfl) dX11_cheapest_65 (fun H locs hw => ?_)
            refine r_goto C (tgt := 75) (by decide) dX11_cheapest_68 ?_
            exact r_iret C hw hf dX11_cheapest_75
        · have hf := ite_t c14 hf
          refine r_iconst C dX11_cheapest_58 ?_
          exact r_iret C hw hf dX11_cheapest_59
      · have hf := ite_f c7 hf
        refine r_bipush C (by decide) dX11_cheapest_23 ?_
        exact r_iret C hw hf dX11_cheapest_25
theorem c_X11_cheapest (l : Launch) (D : Ds) (b : Nat) {x0 x1 x2 : Int} {μ μ' : Mem} {r : Int} (t0 : isK x0 11) (hf : f_X11_cheapest x0 x1 x2 μ = some (r, μ')) : Ctr l D b yX11_cheapest cX11_cheapest 4 (some .int) 6 [(2, x0), (0, x1), (0, x2)] μ (some (.int (jI r))) μ' := by
  refine Ctr.of (by decide +kernel) (Nat.le_of_ble_eq_true rfl) ?_
  intro p e s m below meth c C hw ls hl
  exact w_X11_cheapest_0 C hf t0 hw hl
set_option maxHeartbeats 4000000 in
set_option maxRecDepth 20000 in
theorem w_X11_cheapBy_0 (C : Cx p s m args meth c D b cX11_cheapBy 3 RX11 (some .int)) {r : Int} {μ' : Mem} {x0 x1 x2 : Int} {μ : Mem} {H : Heap} {locs : List Loc} {ls : Array Slot} (hf : f_X11_cheapBy x0 x1 x2 μ = some (r, μ')) (t0 : isK x0 11) (hw : Hw D b μ s.heap H locs) (hl : lvh b ls 3 [(0, 2, x0), (1, 0, x1), (2, 0, x2)]) : W p l e (rm 6) s m args below meth c H locs 0 0 (QM below args s D b (some (.int (jI r))) μ') (F0 m 0 ls []) := by
  unfold f_X11_cheapBy at hf
  refine r_aload_n C hl (kx := 0) rfl rfl dX11_cheapBy_0 ?_
  refine gf_11_36 C hw t0 dX11_cheapBy_1 ?_
  refine gf_11_120 C hw (ow_11_6 t0) dX11_cheapBy_4 ?_
  refine r_iload_n C hl (kx := 1) rfl rfl dX11_cheapBy_7 ?_
  obtain ⟨g1, hf⟩ := gd_some hf
  obtain ⟨r3, μ2, e4, hf⟩ := bn_some hf
  refine r_callVv C hw (K := [(0, x1)]) ok3 g1 (c_X3_hasPlace l D b g1 e4) mi_X3_hasPlace in_X3_hasPlace se_X3_hasPlace kl_11_230 rfl rfl (lvh_sz hl) (by decide) (Kr := []) rfl (Nat.le_of_ble_eq_true rfl) dX11_cheapBy_8 (fun H locs hw => ?_)
  refine r_if_ne C (tgt := 17) (by decide) dX11_cheapBy_11 (fun c5 => ?_) (fun c5 => ?_)
  · have hf := ite_f c5 hf
    refine r_iload_n C hl (kx := 2) rfl rfl dX11_cheapBy_17 ?_
    refine r_if_ge C (tgt := 24) (by decide) dX11_cheapBy_18 (fun c6 => ?_) (fun c6 => ?_)
    · have hf := ite_t c6 hf
      refine r_aload_n C hl (kx := 0) rfl rfl dX11_cheapBy_24 ?_
      refine gf_11_64 C hw t0 dX11_cheapBy_25 ?_
      refine r_aload_n C hl (kx := 0) rfl rfl dX11_cheapBy_28 ?_
      refine gf_11_36 C hw t0 dX11_cheapBy_29 ?_
      refine r_iload_n C hl (kx := 1) rfl rfl dX11_cheapBy_32 ?_
      obtain ⟨r8, μ7, e9, hf⟩ := bn_some hf
      refine r_callVn C hw (K := [(2, (x0 + 58)), (0, x1)]) ok6 (ow_11_12 t0) (c_X6_measureFillings l D b (ow_11_12 t0) e9) mi_X6_measureFillings in_X6_measureFillings se_X6_measureFillings kl_11_252 rfl rfl (lvh_sz hl) (by decide) (Kr := []) rfl (Nat.le_of_ble_eq_true rfl) dX11_cheapBy_33 (fun H locs hw => ?_)
      refine r_aload_n C hl (kx := 0) rfl rfl dX11_cheapBy_36 ?_
      refine gf_11_64 C hw t0 dX11_cheapBy_37 ?_
      refine r_aload_n C hl (kx := 0) rfl rfl dX11_cheapBy_40 ?_
      refine gf_11_36 C hw t0 dX11_cheapBy_41 ?_
      refine gf_11_120 C hw (ow_11_6 t0) dX11_cheapBy_44 ?_
      refine r_aload_n C hl (kx := 0) rfl rfl dX11_cheapBy_47 ?_
      refine gf_11_36 C hw t0 dX11_cheapBy_48 ?_
      refine gf_11_165 C hw (ow_11_6 t0) dX11_cheapBy_51 ?_
      refine r_iload_n C hl (kx := 2) rfl rfl dX11_cheapBy_54 ?_
      obtain ⟨r11, μ10, e12, hf⟩ := bn_some hf
      refine r_callVv C hw (K := [(2, (μ7 (x0 + 58) 0)), (0, (μ7 (x0 + 58) 1)), (0, x2)]) ok6 (ow_11_12 t0) (c_X6_laneOnWay l D b (ow_11_12 t0) e12) mi_X6_laneOnWay in_X6_laneOnWay se_X6_laneOnWay kl_11_244 rfl rfl (lvh_sz hl) (by decide) (Kr := []) rfl (Nat.le_of_ble_eq_true rfl) dX11_cheapBy_55 (fun H locs hw => ?_)
      exact r_iret C hw hf dX11_cheapBy_58
    · have hf := ite_f c6 hf
      refine r_bipush C (by decide) dX11_cheapBy_21 ?_
      exact r_iret C hw hf dX11_cheapBy_23
  · have hf := ite_t c5 hf
    refine r_bipush C (by decide) dX11_cheapBy_14 ?_
    exact r_iret C hw hf dX11_cheapBy_16
theorem c_X11_cheapBy (l : Launch) (D : Ds) (b : Nat) {x0 x1 x2 : Int} {μ μ' : Mem} {r : Int} (t0 : isK x0 11) (hf : f_X11_cheapBy x0 x1 x2 μ = some (r, μ')) : Ctr l D b yX11_cheapBy cX11_cheapBy 3 (some .int) 6 [(2, x0), (0, x1), (0, x2)] μ (some (.int (jI r))) μ' := by
  refine Ctr.of (by decide +kernel) (Nat.le_of_ble_eq_true rfl) ?_
  intro p e s m below meth c C hw ls hl
  exact w_X11_cheapBy_0 C hf t0 hw hl
set_option maxHeartbeats 4000000 in
set_option maxRecDepth 20000 in
theorem w_X11_joins_0 (C : Cx p s m args meth c D b cX11_joins 3 RX11 (some .int)) {r : Int} {μ' : Mem} {x0 x1 : Int} {μ : Mem} {H : Heap} {locs : List Loc} {ls : Array Slot} (hf : f_X11_joins x0 x1 μ = some (r, μ')) (t0 : isK x0 11) (hw : Hw D b μ s.heap H locs) (hl : lvh b ls 3 [(0, 2, x0), (1, 0, x1)]) : W p l e (rm 5) s m args below meth c H locs 0 0 (QM below args s D b (some (.int (jI r))) μ') (F0 m 0 ls []) := by
  unfold f_X11_joins at hf
  refine r_iload_n C hl (kx := 1) rfl rfl dX11_joins_0 ?_
  refine r_if_lt C (tgt := 9) (by decide) dX11_joins_1 (fun c1 => ?_) (fun c1 => ?_)
  · have hf := ite_t c1 hf
    refine r_bipush C (by decide) dX11_joins_9 ?_
    exact r_iret C hw hf dX11_joins_11
  · have hf := ite_f c1 hf
    refine r_iload_n C hl (kx := 1) rfl rfl dX11_joins_4 ?_
    refine r_iconst C dX11_joins_5 ?_
    refine r_icmp_le C (tgt := 12) (by decide) dX11_joins_6 (fun c2 => ?_) (fun c2 => ?_)
    · have hf := ite_t c2 hf
      refine r_aload_n C hl (kx := 0) rfl rfl dX11_joins_12 ?_
      refine gf_11_64 C hw t0 dX11_joins_13 ?_
      refine r_aload_n C hl (kx := 0) rfl rfl dX11_joins_16 ?_
      refine gf_11_36 C hw t0 dX11_joins_17 ?_
      obtain ⟨r4, μ3, e5, hf⟩ := bn_some hf
      refine r_callVn C hw (K := [(2, (x0 + 58))]) ok6 (ow_11_12 t0) (c_X6_weighFillings l D b (ow_11_12 t0) e5) mi_X6_weighFillings in_X6_weighFillings se_X6_weighFillings kl_11_261 rfl rfl (lvh_sz hl) (by decide) (Kr := []) rfl (Nat.le_of_ble_eq_true rfl) dX11_joins_20 (fun H locs hw => ?_)
      refine r_aload_n C hl (kx := 0) rfl rfl dX11_joins_23 ?_
      refine gf_11_64 C hw t0 dX11_joins_24 ?_
      refine r_aload_n C hl (kx := 0) rfl rfl dX11_joins_27 ?_
      refine gf_11_36 C hw t0 dX11_joins_28 ?_
      refine gf_11_120 C hw (ow_11_6 t0) dX11_joins_31 ?_
      obtain ⟨r7, μ6, e8, hf⟩ := bn_some hf
      refine r_callVv C hw (K := [(2, (μ3 (x0 + 58) 0))]) ok6 (ow_11_12 t0) (c_X6_leastJoining l D b (ow_11_12 t0) e8) mi_X6_leastJoining in_X6_leastJoining se_X6_leastJoining kl_11_264 rfl rfl (lvh_sz hl) (by decide) (Kr := []) rfl (Nat.le_of_ble_eq_true rfl) dX11_joins_34 (fun H locs hw => ?_)
      refine r_istore_n C hl (by decide) (L' := [(2, 0, r7), (0, 2, x0), (1, 0, x1)]) rfl rfl dX11_joins_37 (fun ls hl => ?_)
      refine r_iload_n C hl (kx := 0) rfl rfl dX11_joins_38 ?_
      refine r_iconst C dX11_joins_39 ?_
      refine r_icmp_ne C (tgt := 45) (by decide) dX11_joins_40 (fun c9 => ?_) (fun c9 => ?_)
      · have hf := ite_f c9 hf
        refine r_iload_n C hl (kx := 2) rfl rfl dX11_joins_45 ?_
        refine r_if_ne C (tgt := 70) (by decide) dX11_joins_46 (fun c10 => ?_) (fun c10 => ?_)
        · have hf := ite_f c10 hf
          refine r_iload_n C hl (kx := 0) rfl rfl dX11_joins_70 ?_
          exact r_iret C hw hf dX11_joins_71
        · have hf := ite_t c10 hf
          refine r_aload_n C hl (kx := 1) rfl rfl dX11_joins_49 ?_
          refine gf_11_64 C hw t0 dX11_joins_50 ?_
          refine r_aload_n C hl (kx := 1) rfl rfl dX11_joins_53 ?_
          refine gf_11_36 C hw t0 dX11_joins_54 ?_
          refine gf_11_120 C hw (ow_11_6 t0) dX11_joins_57 ?_
          refine r_iload_n C hl (kx := 0) rfl rfl dX11_joins_60 ?_
          obtain ⟨r12, μ11, e13, hf⟩ := bn_some hf
          refine r_callVv C hw (K := [(2, (μ6 (x0 + 58) 0)), (0, r7)]) ok6 (ow_11_12 t0) (c_X6_weightOfAll l D b (ow_11_12 t0) e13) mi_X6_weightOfAll in_X6_weightOfAll se_X6_weightOfAll kl_11_268 rfl rfl (lvh_sz hl) (by decide) (Kr := []) rfl (Nat.le_of_ble_eq_true rfl) dX11_joins_61 (fun H locs hw => ?_)
          obtain ⟨r15, μ14, e16, hf⟩ := bn_some hf
          refine r_callSv C hw (K := [(0, r12)]) (c_X6_fillingsIn l D b e16) mi_X6_fillingsIn st_X6_fillingsIn kl_11_255 rfl rfl (lvh_sz hl) (by decide) (Kr := []) rfl (Nat.le_of_ble_eq_true rfl) dX11_joins_64 (fun H locs hw => ?_)
          refine r_goto C (tgt := 71) (by decide) dX11_joins_67 ?_
          exact r_iret C hw hf dX11_joins_71
      · have hf := ite_t c9 hf
        refine r_iconst C dX11_joins_43 ?_
        exact r_iret C hw hf dX11_joins_44
    · have hf := ite_f c2 hf
      refine r_bipush C (by decide) dX11_joins_9 ?_
      exact r_iret C hw hf dX11_joins_11
theorem c_X11_joins (l : Launch) (D : Ds) (b : Nat) {x0 x1 : Int} {μ μ' : Mem} {r : Int} (t0 : isK x0 11) (hf : f_X11_joins x0 x1 μ = some (r, μ')) : Ctr l D b yX11_joins cX11_joins 3 (some .int) 5 [(2, x0), (0, x1)] μ (some (.int (jI r))) μ' := by
  refine Ctr.of (by decide +kernel) (Nat.le_of_ble_eq_true rfl) ?_
  intro p e s m below meth c C hw ls hl
  exact w_X11_joins_0 C hf t0 hw hl
set_option maxHeartbeats 4000000 in
set_option maxRecDepth 20000 in
theorem w_X11_leastShutting_92 (C : Cx p s m args meth c D b cX11_leastShutting 6 RX11 (some .int)) {r : Int} {μ' : Mem} (k13 : Int → Int → Int → Int → Int → Mem → Option (Int × Mem)) (h13 : ∀ (x0 x1 x2 x3 x4 : Int) (μ : Mem) (H : Heap) (locs : List Loc) (ls : Array Slot), k13 x0 x1 x2 x3 x4 μ = some (r, μ') → isK x0 11 → Hw D b μ s.heap H locs → lvh b ls 6 [(0, 2, x0), (1, 0, x1), (2, 0, x2), (3, 0, x3), (4, 0, x4)] → W p l e (rm 4) s m args below meth c H locs 0 0 (QM below args s D b (some (.int (jI r))) μ') (F0 m 13 ls [])) {x0 x1 x2 x3 x4 : Int} {μ : Mem} {H : Heap} {locs : List Loc} {ls : Array Slot} (hf : f_X11_leastShutting_j92 k13 x0 x1 x2 x3 x4 μ = some (r, μ')) (t0 : isK x0 11) (hw : Hw D b μ s.heap H locs) (hl : lvh b ls 6 [(0, 2, x0), (1, 0, x1), (2, 0, x2), (3, 0, x3), (4, 0, x4)]) : W p l e (rm 4) s m args below meth c H locs 0 0 (QM below args s D b (some (.int (jI r))) μ') (F0 m 92 ls []) := by
  unfold f_X11_leastShutting_j92 at hf
  refine r_iinc C hl (kx := 4) rfl (by decide) (L' := [(4, 0, (x4 + 1)), (0, 2, x0), (1, 0, x1), (2, 0, x2), (3, 0, x3)]) rfl dX11_leastShutting_92 (fun ls hl => ?_)
  refine r_goto C (tgt := 13) (by decide) dX11_leastShutting_95 ?_
  exact h13 _ _ _ _ _ _ _ _ _ hf t0 hw (lvh_sub hl [1, 2, 3, 4, 0] rfl)
set_option maxHeartbeats 4000000 in
set_option maxRecDepth 20000 in
theorem w_X11_leastShutting_52 (C : Cx p s m args meth c D b cX11_leastShutting 6 RX11 (some .int)) {r : Int} {μ' : Mem} (k13 : Int → Int → Int → Int → Int → Mem → Option (Int × Mem)) (h13 : ∀ (x0 x1 x2 x3 x4 : Int) (μ : Mem) (H : Heap) (locs : List Loc) (ls : Array Slot), k13 x0 x1 x2 x3 x4 μ = some (r, μ') → isK x0 11 → Hw D b μ s.heap H locs → lvh b ls 6 [(0, 2, x0), (1, 0, x1), (2, 0, x2), (3, 0, x3), (4, 0, x4)] → W p l e (rm 4) s m args below meth c H locs 0 0 (QM below args s D b (some (.int (jI r))) μ') (F0 m 13 ls [])) {x0 x1 x2 x3 x4 s0 : Int} {μ : Mem} {H : Heap} {locs : List Loc} {ls : Array Slot} (hf : f_X11_leastShutting_j52 k13 x0 x1 x2 x3 x4 s0 μ = some (r, μ')) (t0 : isK x0 11) (hw : Hw D b μ s.heap H locs) (hl : lvh b ls 6 [(0, 2, x0), (1, 0, x1), (2, 0, x2), (3, 0, x3), (4, 0, x4)]) : W p l e (rm 4) s m args below meth c H locs 0 0 (QM below args s D b (some (.int (jI r))) μ') (F0 m 52 ls [.int (jI s0)]) := by
  unfold f_X11_leastShutting_j52 at hf
  refine r_istore C hl (by decide) (L' := [(5, 0, s0), (0, 2, x0), (1, 0, x1), (2, 0, x2), (3, 0, x3), (4, 0, x4)]) rfl dX11_leastShutting_52 (fun ls hl => ?_)
  refine r_iload C hl (kx := 0) rfl dX11_leastShutting_54 ?_
  refine r_if_eq C (tgt := 92) (by decide) dX11_leastShutting_56 (fun c1 => ?_) (fun c1 => ?_)
  · have hf := ite_t c1 hf
    exact w_X11_leastShutting_92 C _ h13 hf t0 hw (lvh_sub hl [1, 2, 3, 4, 5] rfl)
  · have hf := ite_f c1 hf
    refine r_aload_n C hl (kx := 1) rfl rfl dX11_leastShutting_59 ?_
    refine gf_11_36 C hw t0 dX11_leastShutting_60 ?_
    refine gf_11_120 C hw (ow_11_6 t0) dX11_leastShutting_63 ?_
    refine r_aload_n C hl (kx := 1) rfl rfl dX11_leastShutting_66 ?_
    refine gf_11_36 C hw t0 dX11_leastShutting_67 ?_
    refine gf_11_165 C hw (ow_11_6 t0) dX11_leastShutting_70 ?_
    refine r_iload_n C hl (kx := 3) rfl rfl dX11_leastShutting_73 ?_
    refine r_iload C hl (kx := 5) rfl dX11_leastShutting_74 ?_
    refine r_iconst C dX11_leastShutting_76 ?_
    refine r_ixor C dX11_leastShutting_77 ?_
    refine r_iand C dX11_leastShutting_78 ?_
    obtain ⟨g2, hf⟩ := gd_some hf
    obtain ⟨r4, μ3, e5, hf⟩ := bn_some hf
    refine r_callVv C hw (K := [(0, (μ (x0 + 58) 1)), (0, (jand x2 (jxor x4 (-1))))]) ok3 g2 (c_X3_comingFrom l D b g2 e5) mi_X3_comingFrom in_X3_comingFrom se_X3_comingFrom kl_11_227 rfl rfl (lvh_sz hl) (by decide) (Kr := []) rfl (Nat.le_of_ble_eq_true rfl) dX11_leastShutting_79 (fun H locs hw => ?_)
    refine r_iload_n C hl (kx := 2) rfl rfl dX11_leastShutting_82 ?_
    refine r_ishr C dX11_leastShutting_83 ?_
    refine r_iconst C dX11_leastShutting_84 ?_
    refine r_iand C dX11_leastShutting_85 ?_
    refine r_if_ne C (tgt := 92) (by decide) dX11_leastShutting_86 (fun c6 => ?_) (fun c6 => ?_)
    · have hf := ite_f c6 hf
      exact w_X11_leastShutting_92 C _ h13 hf t0 hw (lvh_sub hl [1, 2, 3, 4, 5] rfl)
    · have hf := ite_t c6 hf
      refine r_iload C hl (kx := 5) rfl dX11_leastShutting_89 ?_
      refine r_istore_n C hl (by decide) (L' := [(3, 0, x4), (5, 0, s0), (0, 2, x0), (1, 0, x1), (2, 0, x2), (4, 0, x4)]) rfl rfl dX11_leastShutting_91 (fun ls hl => ?_)
      exact w_X11_leastShutting_92 C _ h13 hf t0 hw (lvh_sub hl [2, 3, 4, 0, 5] rfl)
set_option maxHeartbeats 4000000 in
set_option maxRecDepth 20000 in
theorem w_X11_leastShutting_47 (C : Cx p s m args meth c D b cX11_leastShutting 6 RX11 (some .int)) {r : Int} {μ' : Mem} (k13 : Int → Int → Int → Int → Int → Mem → Option (Int × Mem)) (h13 : ∀ (x0 x1 x2 x3 x4 : Int) (μ : Mem) (H : Heap) (locs : List Loc) (ls : Array Slot), k13 x0 x1 x2 x3 x4 μ = some (r, μ') → isK x0 11 → Hw D b μ s.heap H locs → lvh b ls 6 [(0, 2, x0), (1, 0, x1), (2, 0, x2), (3, 0, x3), (4, 0, x4)] → W p l e (rm 4) s m args below meth c H locs 0 0 (QM below args s D b (some (.int (jI r))) μ') (F0 m 13 ls [])) {x0 x1 x2 x3 x4 : Int} {μ : Mem} {H : Heap} {locs : List Loc} {ls : Array Slot} (hf : f_X11_leastShutting_j47 k13 x0 x1 x2 x3 x4 μ = some (r, μ')) (t0 : isK x0 11) (hw : Hw D b μ s.heap H locs) (hl : lvh b ls 6 [(0, 2, x0), (1, 0, x1), (2, 0, x2), (3, 0, x3), (4, 0, x4)]) : W p l e (rm 4) s m args below meth c H locs 0 0 (QM below args s D b (some (.int (jI r))) μ') (F0 m 47 ls []) := by
  unfold f_X11_leastShutting_j47 at hf
  refine r_iconst C dX11_leastShutting_47 ?_
  refine r_goto C (tgt := 52) (by decide) dX11_leastShutting_48 ?_
  exact w_X11_leastShutting_52 C _ h13 hf t0 hw (lvh_sub hl [0, 1, 2, 3, 4] rfl)
set_option maxHeartbeats 4000000 in
set_option maxRecDepth 20000 in
theorem w_X11_leastShutting_13 (C : Cx p s m args meth c D b cX11_leastShutting 6 RX11 (some .int)) {r : Int} {μ' : Mem} : ∀ (n : Nat) (x0 x1 x2 x3 x4 : Int) (μ : Mem) (H : Heap) (locs : List Loc) (ls : Array Slot), f_X11_leastShutting_w13 n x0 x1 x2 x3 x4 μ = some (r, μ') → isK x0 11 → Hw D b μ s.heap H locs → lvh b ls 6 [(0, 2, x0), (1, 0, x1), (2, 0, x2), (3, 0, x3), (4, 0, x4)] → W p l e (rm 4) s m args below meth c H locs 0 0 (QM below args s D b (some (.int (jI r))) μ') (F0 m 13 ls []) := by
  intro n
  induction n with
  | zero => intro x0 x1 x2 x3 x4 μ H locs ls hf; cases hf
  | succ n ih =>
    intro x0 x1 x2 x3 x4 μ H locs ls hf t0 hw hl
    rw [f_X11_leastShutting_w13.eq_2] at hf
    refine r_iload C hl (kx := 4) rfl dX11_leastShutting_13 ?_
    refine r_iconst C dX11_leastShutting_15 ?_
    refine r_aload_n C hl (kx := 0) rfl rfl dX11_leastShutting_16 ?_
    refine gf_11_36 C hw t0 dX11_leastShutting_17 ?_
    refine gf_11_120 C hw (ow_11_6 t0) dX11_leastShutting_20 ?_
    obtain ⟨g1, hf⟩ := gd_some hf
    refine gf_11_275 C hw g1 dX11_leastShutting_23 ?_
    refine r_ishl C dX11_leastShutting_26 ?_
    refine r_icmp_ge C (tgt := 98) (by decide) dX11_leastShutting_27 (fun c2 => ?_) (fun c2 => ?_)
    · have hf := ite_t c2 hf
      refine r_iload_n C hl (kx := 3) rfl rfl dX11_leastShutting_98 ?_
      exact r_iret C hw hf dX11_leastShutting_99
    · have hf := ite_f c2 hf
      refine r_iload_n C hl (kx := 3) rfl rfl dX11_leastShutting_30 ?_
      refine r_iconst C dX11_leastShutting_31 ?_
      refine r_icmp_eq C (tgt := 47) (by decide) dX11_leastShutting_32 (fun c3 => ?_) (fun c3 => ?_)
      · have hf := ite_t c3 hf
        exact w_X11_leastShutting_47 C _ ih hf t0 hw (lvh_sub hl [0, 1, 2, 3, 4] rfl)
      · have hf := ite_f c3 hf
        refine r_iload C hl (kx := 4) rfl dX11_leastShutting_35 ?_
        obtain ⟨r5, μ4, e6, hf⟩ := bn_some hf
        refine r_callSv C hw (K := [(0, x4)]) (c_J6_bitCount_0f7a4 l D b e6) mi_J6_bitCount_0f7a4 st_J6_bitCount_0f7a4 kl_11_184 rfl rfl (lvh_sz hl) (by decide) (Kr := []) rfl (Nat.le_of_ble_eq_true rfl) dX11_leastShutting_37 (fun H locs hw => ?_)
        refine r_iload_n C hl (kx := 3) rfl rfl dX11_leastShutting_40 ?_
        obtain ⟨r8, μ7, e9, hf⟩ := bn_some hf
        refine r_callSv C hw (K := [(0, x3)]) (c_J6_bitCount_0f7a4 l D b e9) mi_J6_bitCount_0f7a4 st_J6_bitCount_0f7a4 kl_11_184 rfl rfl (lvh_sz hl) (by decide) (Kr := [(0, r5)]) rfl (Nat.le_of_ble_eq_true rfl) dX11_leastShutting_41 (fun H locs hw => ?_)
        refine r_icmp_ge C (tgt := 51) (by decide) dX11_leastShutting_44 (fun c10 => ?_) (fun c10 => ?_)
        · have hf := ite_t c10 hf
          refine r_iconst C dX11_leastShutting_51 ?_
          exact w_X11_leastShutting_52 C _ ih hf t0 hw (lvh_sub hl [0, 1, 2, 3, 4] rfl)
        · have hf := ite_f c10 hf
          exact w_X11_leastShutting_47 C _ ih hf t0 hw (lvh_sub hl [0, 1, 2, 3, 4] rfl)
set_option maxHeartbeats 4000000 in
set_option maxRecDepth 20000 in
theorem w_X11_leastShutting_0 (C : Cx p s m args meth c D b cX11_leastShutting 6 RX11 (some .int)) {r : Int} {μ' : Mem} {x0 x1 : Int} {μ : Mem} {H : Heap} {locs : List Loc} {ls : Array Slot} (hf : f_X11_leastShutting x0 x1 μ = some (r, μ')) (t0 : isK x0 11) (hw : Hw D b μ s.heap H locs) (hl : lvh b ls 6 [(0, 2, x0), (1, 0, x1)]) : W p l e (rm 4) s m args below meth c H locs 0 0 (QM below args s D b (some (.int (jI r))) μ') (F0 m 0 ls []) := by
  unfold f_X11_leastShutting at hf
  refine r_aload_n C hl (kx := 0) rfl rfl dX11_leastShutting_0 ?_
  refine gf_11_36 C hw t0 dX11_leastShutting_1 ?_
  obtain ⟨r2, μ1, e3, hf⟩ := bn_some hf
  refine r_callVv C hw (K := []) ok0 (ow_11_6 t0) (c_X0_openLanes l D b (ow_11_6 t0) e3) mi_X0_openLanes in_X0_openLanes se_X0_openLanes kl_11_224 rfl rfl (lvh_sz hl) (by decide) (Kr := []) rfl (Nat.le_of_ble_eq_true rfl) dX11_leastShutting_4 (fun H locs hw => ?_)
  refine r_istore_n C hl (by decide) (L' := [(2, 0, r2), (0, 2, x0), (1, 0, x1)]) rfl rfl dX11_leastShutting_7 (fun ls hl => ?_)
  refine r_iconst C dX11_leastShutting_8 ?_
  refine r_istore_n C hl (by decide) (L' := [(3, 0, (-1)), (2, 0, r2), (0, 2, x0), (1, 0, x1)]) rfl rfl dX11_leastShutting_9 (fun ls hl => ?_)
  refine r_iconst C dX11_leastShutting_10 ?_
  refine r_istore C hl (by decide) (L' := [(4, 0, 0), (3, 0, (-1)), (2, 0, r2), (0, 2, x0), (1, 0, x1)]) rfl dX11_leastShutting_11 (fun ls hl => ?_)
  exact w_X11_leastShutting_13 C FU _ _ _ _ _ _ _ _ _ hf t0 hw (lvh_sub hl [3, 4, 2, 1, 0] rfl)
theorem c_X11_leastShutting (l : Launch) (D : Ds) (b : Nat) {x0 x1 : Int} {μ μ' : Mem} {r : Int} (t0 : isK x0 11) (hf : f_X11_leastShutting x0 x1 μ = some (r, μ')) : Ctr l D b yX11_leastShutting cX11_leastShutting 6 (some .int) 4 [(2, x0), (0, x1)] μ (some (.int (jI r))) μ' := by
  refine Ctr.of (by decide +kernel) (Nat.le_of_ble_eq_true rfl) ?_
  intro p e s m below meth c C hw ls hl
  exact w_X11_leastShutting_0 C hf t0 hw hl
set_option maxHeartbeats 4000000 in
set_option maxRecDepth 20000 in
theorem w_X11_shuts_0 (C : Cx p s m args meth c D b cX11_shuts 4 RX11 (some .int)) {r : Int} {μ' : Mem} {x0 x1 x2 : Int} {μ : Mem} {H : Heap} {locs : List Loc} {ls : Array Slot} (hf : f_X11_shuts x0 x1 x2 μ = some (r, μ')) (t0 : isK x0 11) (hw : Hw D b μ s.heap H locs) (hl : lvh b ls 4 [(0, 2, x0), (1, 0, x1), (2, 0, x2)]) : W p l e (rm 5) s m args below meth c H locs 0 0 (QM below args s D b (some (.int (jI r))) μ') (F0 m 0 ls []) := by
  unfold f_X11_shuts at hf
  refine r_aload_n C hl (kx := 0) rfl rfl dX11_shuts_0 ?_
  refine gf_11_36 C hw t0 dX11_shuts_1 ?_
  refine gf_11_120 C hw (ow_11_6 t0) dX11_shuts_4 ?_
  refine r_iload_n C hl (kx := 1) rfl rfl dX11_shuts_7 ?_
  obtain ⟨g1, hf⟩ := gd_some hf
  obtain ⟨r3, μ2, e4, hf⟩ := bn_some hf
  refine r_callVv C hw (K := [(0, x1)]) ok3 g1 (c_X3_hasPlace l D b g1 e4) mi_X3_hasPlace in_X3_hasPlace se_X3_hasPlace kl_11_230 rfl rfl (lvh_sz hl) (by decide) (Kr := []) rfl (Nat.le_of_ble_eq_true rfl) dX11_shuts_8 (fun H locs hw => ?_)
  refine r_if_eq C (tgt := 23) (by decide) dX11_shuts_11 (fun c5 => ?_) (fun c5 => ?_)
  · have hf := ite_t c5 hf
    refine r_bipush C (by decide) dX11_shuts_23 ?_
    exact r_iret C hw hf dX11_shuts_25
  · have hf := ite_f c5 hf
    refine r_iload_n C hl (kx := 2) rfl rfl dX11_shuts_14 ?_
    refine r_if_lt C (tgt := 23) (by decide) dX11_shuts_15 (fun c6 => ?_) (fun c6 => ?_)
    · have hf := ite_t c6 hf
      refine r_bipush C (by decide) dX11_shuts_23 ?_
      exact r_iret C hw hf dX11_shuts_25
    · have hf := ite_f c6 hf
      refine r_iload_n C hl (kx := 2) rfl rfl dX11_shuts_18 ?_
      refine r_iconst C dX11_shuts_19 ?_
      refine r_icmp_le C (tgt := 26) (by decide) dX11_shuts_20 (fun c7 => ?_) (fun c7 => ?_)
      · have hf := ite_t c7 hf
        refine r_aload_n C hl (kx := 0) rfl rfl dX11_shuts_26 ?_
        refine r_iload_n C hl (kx := 1) rfl rfl dX11_shuts_27 ?_
        obtain ⟨r9, μ8, e10, hf⟩ := bn_some hf
        refine r_callVv C hw (K := [(0, x1)]) ok11 t0 (c_X11_leastShutting l D b t0 e10) mi_X11_leastShutting in_X11_leastShutting se_X11_leastShutting kl_11_272 rfl rfl (lvh_sz hl) (by decide) (Kr := []) rfl (Nat.le_of_ble_eq_true rfl) dX11_shuts_28 (fun H locs hw => ?_)
        refine r_istore_n C hl (by decide) (L' := [(3, 0, r9), (0, 2, x0), (1, 0, x1), (2, 0, x2)]) rfl rfl dX11_shuts_31 (fun ls hl => ?_)
        refine r_iload_n C hl (kx := 0) rfl rfl dX11_shuts_32 ?_
        refine r_iconst C dX11_shuts_33 ?_
        refine r_icmp_ne C (tgt := 39) (by decide) dX11_shuts_34 (fun c11 => ?_) (fun c11 => ?_)
        · have hf := ite_f c11 hf
          refine r_iload_n C hl (kx := 3) rfl rfl dX11_shuts_39 ?_
          refine r_if_ne C (tgt := 50) (by decide) dX11_shuts_40 (fun c12 => ?_) (fun c12 => ?_)
          · have hf := ite_f c12 hf
            refine r_iload_n C hl (kx := 0) rfl rfl dX11_shuts_50 ?_
            exact r_iret C hw hf dX11_shuts_51
          · have hf := ite_t c12 hf
            refine r_iload_n C hl (kx := 0) rfl rfl dX11_shuts_43 ?_
            obtain ⟨r14, μ13, e15, hf⟩ := bn_some hf
            refine r_callSv C hw (K := [(0, r9)]) (c_J6_bitCount_0f7a4 l D b e15) mi_J6_bitCount_0f7a4 st_J6_bitCount_0f7a4 kl_11_184 rfl rfl (lvh_sz hl) (by decide) (Kr := []) rfl (Nat.le_of_ble_eq_true rfl) dX11_shuts_44 (fun H locs hw => ?_)
            refine r_goto C (tgt := 51) (by decide) dX11_shuts_47 ?_
            exact r_iret C hw hf dX11_shuts_51
        · have hf := ite_t c11 hf
          refine r_iconst C dX11_shuts_37 ?_
          exact r_iret C hw hf dX11_shuts_38
      · have hf := ite_f c7 hf
        refine r_bipush C (by decide) dX11_shuts_23 ?_
        exact r_iret C hw hf dX11_shuts_25
theorem c_X11_shuts (l : Launch) (D : Ds) (b : Nat) {x0 x1 x2 : Int} {μ μ' : Mem} {r : Int} (t0 : isK x0 11) (hf : f_X11_shuts x0 x1 x2 μ = some (r, μ')) : Ctr l D b yX11_shuts cX11_shuts 4 (some .int) 5 [(2, x0), (0, x1), (0, x2)] μ (some (.int (jI r))) μ' := by
  refine Ctr.of (by decide +kernel) (Nat.le_of_ble_eq_true rfl) ?_
  intro p e s m below meth c C hw ls hl
  exact w_X11_shuts_0 C hf t0 hw hl
set_option maxHeartbeats 4000000 in
set_option maxRecDepth 20000 in
theorem w_X11_seasonsOfTurning_10 (C : Cx p s m args meth c D b cX11_seasonsOfTurning 4 RX11 (some .int)) {r : Int} {μ' : Mem} : ∀ (n : Nat) (x0 x1 x2 : Int) (μ : Mem) (H : Heap) (locs : List Loc) (ls : Array Slot), f_X11_seasonsOfTurning_w10 n x0 x1 x2 μ = some (r, μ') → isK x0 11 → Hw D b μ s.heap H locs → lvh b ls 4 [(0, 2, x0), (1, 0, x1), (2, 0, x2)] → W p l e (rm 2) s m args below meth c H locs 0 0 (QM below args s D b (some (.int (jI r))) μ') (F0 m 10 ls []) := by
  intro n
  induction n with
  | zero => intro x0 x1 x2 μ H locs ls hf; cases hf
  | succ n ih =>
    intro x0 x1 x2 μ H locs ls hf t0 hw hl
    rw [f_X11_seasonsOfTurning_w10.eq_2] at hf
    refine r_iload_n C hl (kx := 2) rfl rfl dX11_seasonsOfTurning_10 ?_
    refine r_bipush C (by decide) dX11_seasonsOfTurning_11 ?_
    refine r_icmp_gt C (tgt := 43) (by decide) dX11_seasonsOfTurning_13 (fun c1 => ?_) (fun c1 => ?_)
    · have hf := ite_t c1 hf
      refine r_bipush C (by decide) dX11_seasonsOfTurning_43 ?_
      exact r_iret C hw hf dX11_seasonsOfTurning_45
    · have hf := ite_f c1 hf
      refine r_aload_n C hl (kx := 0) rfl rfl dX11_seasonsOfTurning_16 ?_
      refine gf_11_36 C hw t0 dX11_seasonsOfTurning_17 ?_
      refine gf_11_120 C hw (ow_11_6 t0) dX11_seasonsOfTurning_20 ?_
      refine r_iload_n C hl (kx := 1) rfl rfl dX11_seasonsOfTurning_23 ?_
      obtain ⟨g2, hf⟩ := gd_some hf
      obtain ⟨r4, μ3, e5, hf⟩ := bn_some hf
      refine r_callVv C hw (K := [(0, x1)]) ok3 g2 (c_X3_backBehindSeason l D b g2 e5) mi_X3_backBehindSeason in_X3_backBehindSeason se_X3_backBehindSeason kl_11_284 rfl rfl (lvh_sz hl) (by decide) (Kr := []) rfl (Nat.le_of_ble_eq_true rfl) dX11_seasonsOfTurning_24 (fun H locs hw => ?_)
      refine r_istore_n C hl (by decide) (L' := [(3, 0, r4), (0, 2, x0), (1, 0, x1), (2, 0, x2)]) rfl rfl dX11_seasonsOfTurning_27 (fun ls hl => ?_)
      refine r_iload_n C hl (kx := 0) rfl rfl dX11_seasonsOfTurning_28 ?_
      refine r_iload_n C hl (kx := 2) rfl rfl dX11_seasonsOfTurning_29 ?_
      refine r_icmp_ne C (tgt := 35) (by decide) dX11_seasonsOfTurning_30 (fun c6 => ?_) (fun c6 => ?_)
      · have hf := ite_f c6 hf
        refine r_iload_n C hl (kx := 0) rfl rfl dX11_seasonsOfTurning_35 ?_
        refine r_istore_n C hl (by decide) (L' := [(1, 0, r4), (3, 0, r4), (0, 2, x0), (2, 0, x2)]) rfl rfl dX11_seasonsOfTurning_36 (fun ls hl => ?_)
        refine r_iinc C hl (kx := 3) rfl (by decide) (L' := [(2, 0, (x2 + 1)), (1, 0, r4), (3, 0, r4), (0, 2, x0)]) rfl dX11_seasonsOfTurning_37 (fun ls hl => ?_)
        refine r_goto C (tgt := 10) (by decide) dX11_seasonsOfTurning_40 ?_
        exact ih _ _ _ _ _ _ _ hf t0 hw (lvh_sub hl [3, 1, 0] rfl)
      · have hf := ite_t c6 hf
        refine r_iload_n C hl (kx := 3) rfl rfl dX11_seasonsOfTurning_33 ?_
        exact r_iret C hw hf dX11_seasonsOfTurning_34
set_option maxHeartbeats 4000000 in
set_option maxRecDepth 20000 in
theorem w_X11_seasonsOfTurning_0 (C : Cx p s m args meth c D b cX11_seasonsOfTurning 4 RX11 (some .int)) {r : Int} {μ' : Mem} {x0 : Int} {μ : Mem} {H : Heap} {locs : List Loc} {ls : Array Slot} (hf : f_X11_seasonsOfTurning x0 μ = some (r, μ')) (t0 : isK x0 11) (hw : Hw D b μ s.heap H locs) (hl : lvh b ls 4 [(0, 2, x0)]) : W p l e (rm 2) s m args below meth c H locs 0 0 (QM below args s D b (some (.int (jI r))) μ') (F0 m 0 ls []) := by
  unfold f_X11_seasonsOfTurning at hf
  refine r_aload_n C hl (kx := 0) rfl rfl dX11_seasonsOfTurning_0 ?_
  refine gf_11_36 C hw t0 dX11_seasonsOfTurning_1 ?_
  refine gf_11_171 C hw (ow_11_6 t0) dX11_seasonsOfTurning_4 ?_
  obtain ⟨v1, e2, hf⟩ := nm_some hf
  refine top_i e2 ?_
  refine r_istore_n C hl (by decide) (L' := [(1, 0, v1), (0, 2, x0)]) rfl rfl dX11_seasonsOfTurning_7 (fun ls hl => ?_)
  refine r_iconst C dX11_seasonsOfTurning_8 ?_
  refine r_istore_n C hl (by decide) (L' := [(2, 0, 0), (1, 0, v1), (0, 2, x0)]) rfl rfl dX11_seasonsOfTurning_9 (fun ls hl => ?_)
  exact w_X11_seasonsOfTurning_10 C FU _ _ _ _ _ _ _ hf t0 hw (lvh_sub hl [2, 1, 0] rfl)
theorem c_X11_seasonsOfTurning (l : Launch) (D : Ds) (b : Nat) {x0 : Int} {μ μ' : Mem} {r : Int} (t0 : isK x0 11) (hf : f_X11_seasonsOfTurning x0 μ = some (r, μ')) : Ctr l D b yX11_seasonsOfTurning cX11_seasonsOfTurning 4 (some .int) 2 [(2, x0)] μ (some (.int (jI r))) μ' := by
  refine Ctr.of (by decide +kernel) (Nat.le_of_ble_eq_true rfl) ?_
  intro p e s m below meth c C hw ls hl
  exact w_X11_seasonsOfTurning_0 C hf t0 hw hl
set_option maxHeartbeats 4000000 in
set_option maxRecDepth 20000 in
theorem w_X11_turning_0 (C : Cx p s m args meth c D b cX11_turning 2 RX11 (some .int)) {r : Int} {μ' : Mem} {x0 x1 : Int} {μ : Mem} {H : Heap} {locs : List Loc} {ls : Array Slot} (hf : f_X11_turning x0 x1 μ = some (r, μ')) (t0 : isK x0 11) (hw : Hw D b μ s.heap H locs) (hl : lvh b ls 2 [(0, 2, x0), (1, 0, x1)]) : W p l e (rm 3) s m args below meth c H locs 0 0 (QM below args s D b (some (.int (jI r))) μ') (F0 m 0 ls []) := by
  unfold f_X11_turning at hf
  refine r_iload_n C hl (kx := 1) rfl rfl dX11_turning_0 ?_
  refine r_if_lt C (tgt := 9) (by decide) dX11_turning_1 (fun c1 => ?_) (fun c1 => ?_)
  · have hf := ite_t c1 hf
    refine r_bipush C (by decide) dX11_turning_9 ?_
    exact r_iret C hw hf dX11_turning_11
  · have hf := ite_f c1 hf
    refine r_iload_n C hl (kx := 1) rfl rfl dX11_turning_4 ?_
    refine r_iconst C dX11_turning_5 ?_
    refine r_icmp_le C (tgt := 12) (by decide) dX11_turning_6 (fun c2 => ?_) (fun c2 => ?_)
    · have hf := ite_t c2 hf
      refine r_iload_n C hl (kx := 1) rfl rfl dX11_turning_12 ?_
      refine r_if_ne C (tgt := 36) (by decide) dX11_turning_13 (fun c3 => ?_) (fun c3 => ?_)
      · have hf := ite_f c3 hf
        refine r_aload_n C hl (kx := 0) rfl rfl dX11_turning_36 ?_
        obtain ⟨r5, μ4, e6, hf⟩ := bn_some hf
        refine r_callVv C hw (K := []) ok11 t0 (c_X11_seasonsOfTurning l D b t0 e6) mi_X11_seasonsOfTurning in_X11_seasonsOfTurning se_X11_seasonsOfTurning kl_11_281 rfl rfl (lvh_sz hl) (by decide) (Kr := []) rfl (Nat.le_of_ble_eq_true rfl) dX11_turning_37 (fun H locs hw => ?_)
        exact r_iret C hw hf dX11_turning_40
      · have hf := ite_t c3 hf
        refine r_aload_n C hl (kx := 0) rfl rfl dX11_turning_16 ?_
        refine gf_11_36 C hw t0 dX11_turning_17 ?_
        refine gf_11_120 C hw (ow_11_6 t0) dX11_turning_20 ?_
        refine r_aload_n C hl (kx := 0) rfl rfl dX11_turning_23 ?_
        refine gf_11_36 C hw t0 dX11_turning_24 ?_
        refine gf_11_171 C hw (ow_11_6 t0) dX11_turning_27 ?_
        obtain ⟨g7, hf⟩ := gd_some hf
        obtain ⟨r9, μ8, e10, hf⟩ := bn_some hf
        refine r_callVv C hw (K := [(0, (μ (x0 + 58) 3))]) ok3 g7 (c_X3_backInTheEnd l D b g7 e10) mi_X3_backInTheEnd in_X3_backInTheEnd se_X3_backInTheEnd kl_11_278 rfl rfl (lvh_sz hl) (by decide) (Kr := []) rfl (Nat.le_of_ble_eq_true rfl) dX11_turning_30 (fun H locs hw => ?_)
        refine r_goto C (tgt := 40) (by decide) dX11_turning_33 ?_
        exact r_iret C hw hf dX11_turning_40
    · have hf := ite_f c2 hf
      refine r_bipush C (by decide) dX11_turning_9 ?_
      exact r_iret C hw hf dX11_turning_11
theorem c_X11_turning (l : Launch) (D : Ds) (b : Nat) {x0 x1 : Int} {μ μ' : Mem} {r : Int} (t0 : isK x0 11) (hf : f_X11_turning x0 x1 μ = some (r, μ')) : Ctr l D b yX11_turning cX11_turning 2 (some .int) 3 [(2, x0), (0, x1)] μ (some (.int (jI r))) μ' := by
  refine Ctr.of (by decide +kernel) (Nat.le_of_ble_eq_true rfl) ?_
  intro p e s m below meth c C hw ls hl
  exact w_X11_turning_0 C hf t0 hw hl
set_option maxHeartbeats 4000000 in
set_option maxRecDepth 20000 in
theorem w_X11_when_47 (C : Cx p s m args meth c D b cX11_when 4 RX11 (some .int)) {r : Int} {μ' : Mem} : ∀ (n : Nat) (x0 x1 x2 x3 : Int) (μ : Mem) (H : Heap) (locs : List Loc) (ls : Array Slot), f_X11_when_w47 n x0 x1 x2 x3 μ = some (r, μ') → isK x0 11 → Hw D b μ s.heap H locs → lvh b ls 4 [(0, 2, x0), (1, 0, x1), (2, 0, x2), (3, 0, x3)] → W p l e (rm 2) s m args below meth c H locs 0 0 (QM below args s D b (some (.int (jI r))) μ') (F0 m 47 ls []) := by
  intro n
  induction n with
  | zero => intro x0 x1 x2 x3 μ H locs ls hf; cases hf
  | succ n ih =>
    intro x0 x1 x2 x3 μ H locs ls hf t0 hw hl
    rw [f_X11_when_w47.eq_2] at hf
    refine r_iload_n C hl (kx := 3) rfl rfl dX11_when_47 ?_
    refine r_bipush C (by decide) dX11_when_48 ?_
    refine r_icmp_gt C (tgt := 81) (by decide) dX11_when_50 (fun c1 => ?_) (fun c1 => ?_)
    · have hf := ite_t c1 hf
      refine r_iconst C dX11_when_81 ?_
      exact r_iret C hw hf dX11_when_82
    · have hf := ite_f c1 hf
      refine r_aload_n C hl (kx := 0) rfl rfl dX11_when_53 ?_
      refine gf_11_36 C hw t0 dX11_when_54 ?_
      refine gf_11_120 C hw (ow_11_6 t0) dX11_when_57 ?_
      refine r_iload_n C hl (kx := 2) rfl rfl dX11_when_60 ?_
      obtain ⟨g2, hf⟩ := gd_some hf
      obtain ⟨r4, μ3, e5, hf⟩ := bn_some hf
      refine r_callVv C hw (K := [(0, x2)]) ok3 g2 (c_X3_backBehindSeason l D b g2 e5) mi_X3_backBehindSeason in_X3_backBehindSeason se_X3_backBehindSeason kl_11_284 rfl rfl (lvh_sz hl) (by decide) (Kr := []) rfl (Nat.le_of_ble_eq_true rfl) dX11_when_61 (fun H locs hw => ?_)
      refine r_istore_n C hl (by decide) (L' := [(2, 0, r4), (0, 2, x0), (1, 0, x1), (3, 0, x3)]) rfl rfl dX11_when_64 (fun ls hl => ?_)
      refine r_iload_n C hl (kx := 0) rfl rfl dX11_when_65 ?_
      refine r_iload_n C hl (kx := 2) rfl rfl dX11_when_66 ?_
      refine r_ishr C dX11_when_67 ?_
      refine r_iconst C dX11_when_68 ?_
      refine r_iand C dX11_when_69 ?_
      refine r_if_eq C (tgt := 75) (by decide) dX11_when_70 (fun c6 => ?_) (fun c6 => ?_)
      · have hf := ite_t c6 hf
        refine r_iinc C hl (kx := 3) rfl (by decide) (L' := [(3, 0, (x3 + 1)), (2, 0, r4), (0, 2, x0), (1, 0, x1)]) rfl dX11_when_75 (fun ls hl => ?_)
        refine r_goto C (tgt := 47) (by decide) dX11_when_78 ?_
        exact ih _ _ _ _ _ _ _ _ hf t0 hw (lvh_sub hl [2, 3, 1, 0] rfl)
      · have hf := ite_f c6 hf
        refine r_iload_n C hl (kx := 3) rfl rfl dX11_when_73 ?_
        exact r_iret C hw hf dX11_when_74
set_option maxHeartbeats 4000000 in
set_option maxRecDepth 20000 in
theorem w_X11_when_0 (C : Cx p s m args meth c D b cX11_when 4 RX11 (some .int)) {r : Int} {μ' : Mem} {x0 x1 : Int} {μ : Mem} {H : Heap} {locs : List Loc} {ls : Array Slot} (hf : f_X11_when x0 x1 μ = some (r, μ')) (t0 : isK x0 11) (hw : Hw D b μ s.heap H locs) (hl : lvh b ls 4 [(0, 2, x0), (1, 0, x1)]) : W p l e (rm 2) s m args below meth c H locs 0 0 (QM below args s D b (some (.int (jI r))) μ') (F0 m 0 ls []) := by
  unfold f_X11_when at hf
  refine r_iload_n C hl (kx := 1) rfl rfl dX11_when_0 ?_
  refine r_if_lt C (tgt := 18) (by decide) dX11_when_1 (fun c1 => ?_) (fun c1 => ?_)
  · have hf := ite_t c1 hf
    refine r_bipush C (by decide) dX11_when_18 ?_
    exact r_iret C hw hf dX11_when_20
  · have hf := ite_f c1 hf
    refine r_iload_n C hl (kx := 1) rfl rfl dX11_when_4 ?_
    refine r_aload_n C hl (kx := 0) rfl rfl dX11_when_5 ?_
    refine gf_11_36 C hw t0 dX11_when_6 ?_
    refine gf_11_120 C hw (ow_11_6 t0) dX11_when_9 ?_
    obtain ⟨g2, hf⟩ := gd_some hf
    refine gf_11_287 C hw g2 dX11_when_12 ?_
    refine r_icmp_lt C (tgt := 21) (by decide) dX11_when_15 (fun c3 => ?_) (fun c3 => ?_)
    · have hf := ite_t c3 hf
      refine r_aload_n C hl (kx := 0) rfl rfl dX11_when_21 ?_
      refine gf_11_36 C hw t0 dX11_when_22 ?_
      refine gf_11_171 C hw (ow_11_6 t0) dX11_when_25 ?_
      refine r_iload_n C hl (kx := 1) rfl rfl dX11_when_28 ?_
      refine r_ishr C dX11_when_29 ?_
      refine r_iconst C dX11_when_30 ?_
      refine r_iand C dX11_when_31 ?_
      refine r_if_eq C (tgt := 37) (by decide) dX11_when_32 (fun c4 => ?_) (fun c4 => ?_)
      · have hf := ite_t c4 hf
        refine r_aload_n C hl (kx := 0) rfl rfl dX11_when_37 ?_
        refine gf_11_36 C hw t0 dX11_when_38 ?_
        refine gf_11_171 C hw (ow_11_6 t0) dX11_when_41 ?_
        obtain ⟨v5, e6, hf⟩ := nm_some hf
        refine top_i e6 ?_
        refine r_istore_n C hl (by decide) (L' := [(2, 0, v5), (0, 2, x0), (1, 0, x1)]) rfl rfl dX11_when_44 (fun ls hl => ?_)
        refine r_iconst C dX11_when_45 ?_
        refine r_istore_n C hl (by decide) (L' := [(3, 0, 1), (2, 0, v5), (0, 2, x0), (1, 0, x1)]) rfl rfl dX11_when_46 (fun ls hl => ?_)
        exact w_X11_when_47 C FU _ _ _ _ _ _ _ _ hf t0 hw (lvh_sub hl [2, 3, 1, 0] rfl)
      · have hf := ite_f c4 hf
        refine r_iconst C dX11_when_35 ?_
        exact r_iret C hw hf dX11_when_36
    · have hf := ite_f c3 hf
      refine r_bipush C (by decide) dX11_when_18 ?_
      exact r_iret C hw hf dX11_when_20
theorem c_X11_when (l : Launch) (D : Ds) (b : Nat) {x0 x1 : Int} {μ μ' : Mem} {r : Int} (t0 : isK x0 11) (hf : f_X11_when x0 x1 μ = some (r, μ')) : Ctr l D b yX11_when cX11_when 4 (some .int) 2 [(2, x0), (0, x1)] μ (some (.int (jI r))) μ' := by
  refine Ctr.of (by decide +kernel) (Nat.le_of_ble_eq_true rfl) ?_
  intro p e s m below meth c C hw ls hl
  exact w_X11_when_0 C hf t0 hw hl
set_option maxHeartbeats 4000000 in
set_option maxRecDepth 20000 in
theorem w_X11_leastStarting_94 (C : Cx p s m args meth c D b cX11_leastStarting 5 RX11 (some .int)) {r : Int} {μ' : Mem} (k29 : Int → Int → Int → Int → Mem → Option (Int × Mem)) (h29 : ∀ (x0 x1 x2 x3 : Int) (μ : Mem) (H : Heap) (locs : List Loc) (ls : Array Slot), k29 x0 x1 x2 x3 μ = some (r, μ') → isK x0 11 → Hw D b μ s.heap H locs → lvh b ls 5 [(0, 2, x0), (1, 0, x1), (2, 0, x2), (3, 0, x3)] → W p l e (rm 3) s m args below meth c H locs 0 0 (QM below args s D b (some (.int (jI r))) μ') (F0 m 29 ls [])) {x0 x1 x2 x3 : Int} {μ : Mem} {H : Heap} {locs : List Loc} {ls : Array Slot} (hf : f_X11_leastStarting_j94 k29 x0 x1 x2 x3 μ = some (r, μ')) (t0 : isK x0 11) (hw : Hw D b μ s.heap H locs) (hl : lvh b ls 5 [(0, 2, x0), (1, 0, x1), (2, 0, x2), (3, 0, x3)]) : W p l e (rm 3) s m args below meth c H locs 0 0 (QM below args s D b (some (.int (jI r))) μ') (F0 m 94 ls []) := by
  unfold f_X11_leastStarting_j94 at hf
  refine r_iinc C hl (kx := 3) rfl (by decide) (L' := [(3, 0, (x3 + 1)), (0, 2, x0), (1, 0, x1), (2, 0, x2)]) rfl dX11_leastStarting_94 (fun ls hl => ?_)
  refine r_goto C (tgt := 29) (by decide) dX11_leastStarting_97 ?_
  exact h29 _ _ _ _ _ _ _ _ hf t0 hw (lvh_sub hl [1, 2, 3, 0] rfl)
set_option maxHeartbeats 4000000 in
set_option maxRecDepth 20000 in
theorem w_X11_leastStarting_62 (C : Cx p s m args meth c D b cX11_leastStarting 5 RX11 (some .int)) {r : Int} {μ' : Mem} (k29 : Int → Int → Int → Int → Mem → Option (Int × Mem)) (h29 : ∀ (x0 x1 x2 x3 : Int) (μ : Mem) (H : Heap) (locs : List Loc) (ls : Array Slot), k29 x0 x1 x2 x3 μ = some (r, μ') → isK x0 11 → Hw D b μ s.heap H locs → lvh b ls 5 [(0, 2, x0), (1, 0, x1), (2, 0, x2), (3, 0, x3)] → W p l e (rm 3) s m args below meth c H locs 0 0 (QM below args s D b (some (.int (jI r))) μ') (F0 m 29 ls [])) {x0 x1 x2 x3 s0 : Int} {μ : Mem} {H : Heap} {locs : List Loc} {ls : Array Slot} (hf : f_X11_leastStarting_j62 k29 x0 x1 x2 x3 s0 μ = some (r, μ')) (t0 : isK x0 11) (hw : Hw D b μ s.heap H locs) (hl : lvh b ls 5 [(0, 2, x0), (1, 0, x1), (2, 0, x2), (3, 0, x3)]) : W p l e (rm 3) s m args below meth c H locs 0 0 (QM below args s D b (some (.int (jI r))) μ') (F0 m 62 ls [.int (jI s0)]) := by
  unfold f_X11_leastStarting_j62 at hf
  refine r_istore C hl (by decide) (L' := [(4, 0, s0), (0, 2, x0), (1, 0, x1), (2, 0, x2), (3, 0, x3)]) rfl dX11_leastStarting_62 (fun ls hl => ?_)
  refine r_iload C hl (kx := 0) rfl dX11_leastStarting_64 ?_
  refine r_if_eq C (tgt := 94) (by decide) dX11_leastStarting_66 (fun c1 => ?_) (fun c1 => ?_)
  · have hf := ite_t c1 hf
    exact w_X11_leastStarting_94 C _ h29 hf t0 hw (lvh_sub hl [1, 2, 3, 4] rfl)
  · have hf := ite_f c1 hf
    refine r_aload_n C hl (kx := 1) rfl rfl dX11_leastStarting_69 ?_
    refine gf_11_36 C hw t0 dX11_leastStarting_70 ?_
    refine gf_11_120 C hw (ow_11_6 t0) dX11_leastStarting_73 ?_
    refine r_aload_n C hl (kx := 1) rfl rfl dX11_leastStarting_76 ?_
    refine gf_11_36 C hw t0 dX11_leastStarting_77 ?_
    refine gf_11_171 C hw (ow_11_6 t0) dX11_leastStarting_80 ?_
    refine r_iload_n C hl (kx := 4) rfl rfl dX11_leastStarting_83 ?_
    refine r_ior C dX11_leastStarting_84 ?_
    obtain ⟨g2, hf⟩ := gd_some hf
    obtain ⟨r4, μ3, e5, hf⟩ := bn_some hf
    refine r_callVv C hw (K := [(0, (jor (μ (x0 + 58) 3) x3))]) ok3 g2 (c_X3_backInTheEnd l D b g2 e5) mi_X3_backInTheEnd in_X3_backInTheEnd se_X3_backInTheEnd kl_11_278 rfl rfl (lvh_sz hl) (by decide) (Kr := []) rfl (Nat.le_of_ble_eq_true rfl) dX11_leastStarting_85 (fun H locs hw => ?_)
    refine r_iload_n C hl (kx := 2) rfl rfl dX11_leastStarting_88 ?_
    refine r_icmp_ne C (tgt := 94) (by decide) dX11_leastStarting_89 (fun c6 => ?_) (fun c6 => ?_)
    · have hf := ite_f c6 hf
      exact w_X11_leastStarting_94 C _ h29 hf t0 hw (lvh_sub hl [1, 2, 3, 4] rfl)
    · have hf := ite_t c6 hf
      refine r_iload_n C hl (kx := 4) rfl rfl dX11_leastStarting_92 ?_
      refine r_istore_n C hl (by decide) (L' := [(2, 0, x3), (4, 0, s0), (0, 2, x0), (1, 0, x1), (3, 0, x3)]) rfl rfl dX11_leastStarting_93 (fun ls hl => ?_)
      exact w_X11_leastStarting_94 C _ h29 hf t0 hw (lvh_sub hl [2, 3, 0, 4] rfl)
set_option maxHeartbeats 4000000 in
set_option maxRecDepth 20000 in
theorem w_X11_leastStarting_61 (C : Cx p s m args meth c D b cX11_leastStarting 5 RX11 (some .int)) {r : Int} {μ' : Mem} (k29 : Int → Int → Int → Int → Mem → Option (Int × Mem)) (h29 : ∀ (x0 x1 x2 x3 : Int) (μ : Mem) (H : Heap) (locs : List Loc) (ls : Array Slot), k29 x0 x1 x2 x3 μ = some (r, μ') → isK x0 11 → Hw D b μ s.heap H locs → lvh b ls 5 [(0, 2, x0), (1, 0, x1), (2, 0, x2), (3, 0, x3)] → W p l e (rm 3) s m args below meth c H locs 0 0 (QM below args s D b (some (.int (jI r))) μ') (F0 m 29 ls [])) {x0 x1 x2 x3 : Int} {μ : Mem} {H : Heap} {locs : List Loc} {ls : Array Slot} (hf : f_X11_leastStarting_j61 k29 x0 x1 x2 x3 μ = some (r, μ')) (t0 : isK x0 11) (hw : Hw D b μ s.heap H locs) (hl : lvh b ls 5 [(0, 2, x0), (1, 0, x1), (2, 0, x2), (3, 0, x3)]) : W p l e (rm 3) s m args below meth c H locs 0 0 (QM below args s D b (some (.int (jI r))) μ') (F0 m 61 ls []) := by
  unfold f_X11_leastStarting_j61 at hf
  refine r_iconst C dX11_leastStarting_61 ?_
  exact w_X11_leastStarting_62 C _ h29 hf t0 hw (lvh_sub hl [0, 1, 2, 3] rfl)
set_option maxHeartbeats 4000000 in
set_option maxRecDepth 20000 in
theorem w_X11_leastStarting_29 (C : Cx p s m args meth c D b cX11_leastStarting 5 RX11 (some .int)) {r : Int} {μ' : Mem} : ∀ (n : Nat) (x0 x1 x2 x3 : Int) (μ : Mem) (H : Heap) (locs : List Loc) (ls : Array Slot), f_X11_leastStarting_w29 n x0 x1 x2 x3 μ = some (r, μ') → isK x0 11 → Hw D b μ s.heap H locs → lvh b ls 5 [(0, 2, x0), (1, 0, x1), (2, 0, x2), (3, 0, x3)] → W p l e (rm 3) s m args below meth c H locs 0 0 (QM below args s D b (some (.int (jI r))) μ') (F0 m 29 ls []) := by
  intro n
  induction n with
  | zero => intro x0 x1 x2 x3 μ H locs ls hf; cases hf
  | succ n ih =>
    intro x0 x1 x2 x3 μ H locs ls hf t0 hw hl
    rw [f_X11_leastStarting_w29.eq_2] at hf
    refine r_iload_n C hl (kx := 3) rfl rfl dX11_leastStarting_29 ?_
    refine r_iload_n C hl (kx := 1) rfl rfl dX11_leastStarting_30 ?_
    refine r_icmp_gt C (tgt := 100) (by decide) dX11_leastStarting_31 (fun c1 => ?_) (fun c1 => ?_)
    · have hf := ite_t c1 hf
      refine r_iload_n C hl (kx := 2) rfl rfl dX11_leastStarting_100 ?_
      exact r_iret C hw hf dX11_leastStarting_101
    · have hf := ite_f c1 hf
      refine r_iload_n C hl (kx := 3) rfl rfl dX11_leastStarting_34 ?_
      refine r_aload_n C hl (kx := 0) rfl rfl dX11_leastStarting_35 ?_
      refine gf_11_36 C hw t0 dX11_leastStarting_36 ?_
      refine gf_11_171 C hw (ow_11_6 t0) dX11_leastStarting_39 ?_
      refine r_iand C dX11_leastStarting_42 ?_
      refine r_if_ne C (tgt := 61) (by decide) dX11_leastStarting_43 (fun c2 => ?_) (fun c2 => ?_)
      · have hf := ite_f c2 hf
        exact w_X11_leastStarting_61 C _ ih hf t0 hw (lvh_sub hl [0, 1, 2, 3] rfl)
      · have hf := ite_t c2 hf
        refine r_iload_n C hl (kx := 3) rfl rfl dX11_leastStarting_46 ?_
        obtain ⟨r4, μ3, e5, hf⟩ := bn_some hf
        refine r_callSv C hw (K := [(0, x3)]) (c_J6_bitCount_0f7a4 l D b e5) mi_J6_bitCount_0f7a4 st_J6_bitCount_0f7a4 kl_11_184 rfl rfl (lvh_sz hl) (by decide) (Kr := []) rfl (Nat.le_of_ble_eq_true rfl) dX11_leastStarting_47 (fun H locs hw => ?_)
        refine r_iload_n C hl (kx := 2) rfl rfl dX11_leastStarting_50 ?_
        obtain ⟨r7, μ6, e8, hf⟩ := bn_some hf
        refine r_callSv C hw (K := [(0, x2)]) (c_J6_bitCount_0f7a4 l D b e8) mi_J6_bitCount_0f7a4 st_J6_bitCount_0f7a4 kl_11_184 rfl rfl (lvh_sz hl) (by decide) (Kr := [(0, r4)]) rfl (Nat.le_of_ble_eq_true rfl) dX11_leastStarting_51 (fun H locs hw => ?_)
        refine r_icmp_ge C (tgt := 61) (by decide) dX11_leastStarting_54 (fun c9 => ?_) (fun c9 => ?_)
        · have hf := ite_t c9 hf
          exact w_X11_leastStarting_61 C _ ih hf t0 hw (lvh_sub hl [0, 1, 2, 3] rfl)
        · have hf := ite_f c9 hf
          refine r_iconst C dX11_leastStarting_57 ?_
          refine r_goto C (tgt := 62) (by decide) dX11_leastStarting_58 ?_
          exact w_X11_leastStarting_62 C _ ih hf t0 hw (lvh_sub hl [0, 1, 2, 3] rfl)
set_option maxHeartbeats 4000000 in
set_option maxRecDepth 20000 in
theorem w_X11_leastStarting_0 (C : Cx p s m args meth c D b cX11_leastStarting 5 RX11 (some .int)) {r : Int} {μ' : Mem} {x0 : Int} {μ : Mem} {H : Heap} {locs : List Loc} {ls : Array Slot} (hf : f_X11_leastStarting x0 μ = some (r, μ')) (t0 : isK x0 11) (hw : Hw D b μ s.heap H locs) (hl : lvh b ls 5 [(0, 2, x0)]) : W p l e (rm 3) s m args below meth c H locs 0 0 (QM below args s D b (some (.int (jI r))) μ') (F0 m 0 ls []) := by
  unfold f_X11_leastStarting at hf
  refine r_iconst C dX11_leastStarting_0 ?_
  refine r_aload_n C hl (kx := 0) rfl rfl dX11_leastStarting_1 ?_
  refine gf_11_36 C hw t0 dX11_leastStarting_2 ?_
  refine gf_11_120 C hw (ow_11_6 t0) dX11_leastStarting_5 ?_
  obtain ⟨g1, hf⟩ := gd_some hf
  refine gf_11_287 C hw g1 dX11_leastStarting_8 ?_
  refine r_ishl C dX11_leastStarting_11 ?_
  refine r_iconst C dX11_leastStarting_12 ?_
  refine r_isub C dX11_leastStarting_13 ?_
  obtain ⟨v2, e3, hf⟩ := nm_some hf
  refine top_i e3 ?_
  refine r_istore_n C hl (by decide) (L' := [(1, 0, v2), (0, 2, x0)]) rfl rfl dX11_leastStarting_14 (fun ls hl => ?_)
  refine r_iload_n C hl (kx := 0) rfl rfl dX11_leastStarting_15 ?_
  refine r_aload_n C hl (kx := 1) rfl rfl dX11_leastStarting_16 ?_
  refine gf_11_36 C hw t0 dX11_leastStarting_17 ?_
  refine gf_11_171 C hw (ow_11_6 t0) dX11_leastStarting_20 ?_
  refine r_iconst C dX11_leastStarting_23 ?_
  refine r_ixor C dX11_leastStarting_24 ?_
  refine r_iand C dX11_leastStarting_25 ?_
  obtain ⟨v4, e5, hf⟩ := nm_some hf
  refine top_i e5 ?_
  refine r_istore_n C hl (by decide) (L' := [(2, 0, v4), (1, 0, v2), (0, 2, x0)]) rfl rfl dX11_leastStarting_26 (fun ls hl => ?_)
  refine r_iconst C dX11_leastStarting_27 ?_
  refine r_istore_n C hl (by decide) (L' := [(3, 0, 0), (2, 0, v4), (1, 0, v2), (0, 2, x0)]) rfl rfl dX11_leastStarting_28 (fun ls hl => ?_)
  exact w_X11_leastStarting_29 C FU _ _ _ _ _ _ _ _ hf t0 hw (lvh_sub hl [3, 2, 1, 0] rfl)
theorem c_X11_leastStarting (l : Launch) (D : Ds) (b : Nat) {x0 : Int} {μ μ' : Mem} {r : Int} (t0 : isK x0 11) (hf : f_X11_leastStarting x0 μ = some (r, μ')) : Ctr l D b yX11_leastStarting cX11_leastStarting 5 (some .int) 3 [(2, x0)] μ (some (.int (jI r))) μ' := by
  refine Ctr.of (by decide +kernel) (Nat.le_of_ble_eq_true rfl) ?_
  intro p e s m below meth c C hw ls hl
  exact w_X11_leastStarting_0 C hf t0 hw hl
set_option maxHeartbeats 4000000 in
set_option maxRecDepth 20000 in
theorem w_X11_starts_0 (C : Cx p s m args meth c D b cX11_starts 3 RX11 (some .int)) {r : Int} {μ' : Mem} {x0 x1 : Int} {μ : Mem} {H : Heap} {locs : List Loc} {ls : Array Slot} (hf : f_X11_starts x0 x1 μ = some (r, μ')) (t0 : isK x0 11) (hw : Hw D b μ s.heap H locs) (hl : lvh b ls 3 [(0, 2, x0), (1, 0, x1)]) : W p l e (rm 4) s m args below meth c H locs 0 0 (QM below args s D b (some (.int (jI r))) μ') (F0 m 0 ls []) := by
  unfold f_X11_starts at hf
  refine r_iload_n C hl (kx := 1) rfl rfl dX11_starts_0 ?_
  refine r_if_lt C (tgt := 9) (by decide) dX11_starts_1 (fun c1 => ?_) (fun c1 => ?_)
  · have hf := ite_t c1 hf
    refine r_bipush C (by decide) dX11_starts_9 ?_
    exact r_iret C hw hf dX11_starts_11
  · have hf := ite_f c1 hf
    refine r_iload_n C hl (kx := 1) rfl rfl dX11_starts_4 ?_
    refine r_iconst C dX11_starts_5 ?_
    refine r_icmp_le C (tgt := 12) (by decide) dX11_starts_6 (fun c2 => ?_) (fun c2 => ?_)
    · have hf := ite_t c2 hf
      refine r_aload_n C hl (kx := 0) rfl rfl dX11_starts_12 ?_
      obtain ⟨r4, μ3, e5, hf⟩ := bn_some hf
      refine r_callVv C hw (K := []) ok11 t0 (c_X11_leastStarting l D b t0 e5) mi_X11_leastStarting in_X11_leastStarting se_X11_leastStarting kl_11_290 rfl rfl (lvh_sz hl) (by decide) (Kr := []) rfl (Nat.le_of_ble_eq_true rfl) dX11_starts_13 (fun H locs hw => ?_)
      refine r_istore_n C hl (by decide) (L' := [(2, 0, r4), (0, 2, x0), (1, 0, x1)]) rfl rfl dX11_starts_16 (fun ls hl => ?_)
      refine r_iload_n C hl (kx := 2) rfl rfl dX11_starts_17 ?_
      refine r_if_ne C (tgt := 28) (by decide) dX11_starts_18 (fun c6 => ?_) (fun c6 => ?_)
      · have hf := ite_f c6 hf
        refine r_iload_n C hl (kx := 0) rfl rfl dX11_starts_28 ?_
        exact r_iret C hw hf dX11_starts_29
      · have hf := ite_t c6 hf
        refine r_iload_n C hl (kx := 0) rfl rfl dX11_starts_21 ?_
        obtain ⟨r8, μ7, e9, hf⟩ := bn_some hf
        refine r_callSv C hw (K := [(0, r4)]) (c_J6_bitCount_0f7a4 l D b e9) mi_J6_bitCount_0f7a4 st_J6_bitCount_0f7a4 kl_11_184 rfl rfl (lvh_sz hl) (by decide) (Kr := []) rfl (Nat.le_of_ble_eq_true rfl) dX11_starts_22 (fun H locs hw => ?_)
        refine r_goto C (tgt := 29) (by decide) dX11_starts_25 ?_
        exact r_iret C hw hf dX11_starts_29
    · have hf := ite_f c2 hf
      refine r_bipush C (by decide) dX11_starts_9 ?_
      exact r_iret C hw hf dX11_starts_11
theorem c_X11_starts (l : Launch) (D : Ds) (b : Nat) {x0 x1 : Int} {μ μ' : Mem} {r : Int} (t0 : isK x0 11) (hf : f_X11_starts x0 x1 μ = some (r, μ')) : Ctr l D b yX11_starts cX11_starts 3 (some .int) 4 [(2, x0), (0, x1)] μ (some (.int (jI r))) μ' := by
  refine Ctr.of (by decide +kernel) (Nat.le_of_ble_eq_true rfl) ?_
  intro p e s m below meth c C hw ls hl
  exact w_X11_starts_0 C hf t0 hw hl
set_option maxHeartbeats 4000000 in
set_option maxRecDepth 20000 in
theorem w_X11_whyNotWorn_39 (C : Cx p s m args meth c D b cX11_whyNotWorn 5 RX11 (some .int)) {r : Int} {μ' : Mem} : ∀ (n : Nat) (x0 x1 x2 : Int) (μ : Mem) (H : Heap) (locs : List Loc) (ls : Array Slot), f_X11_whyNotWorn_w39 n x0 x1 x2 μ = some (r, μ') → isK x0 11 → Hw D b μ s.heap H locs → lvh b ls 5 [(0, 2, x0), (1, 2, x1), (2, 0, x2)] → W p l e (rm 1) s m args below meth c H locs 0 0 (QM below args s D b (some (.int (jI r))) μ') (F0 m 39 ls []) := by
  intro n
  induction n with
  | zero => intro x0 x1 x2 μ H locs ls hf; cases hf
  | succ n ih =>
    intro x0 x1 x2 μ H locs ls hf t0 hw hl
    rw [f_X11_whyNotWorn_w39.eq_2] at hf
    refine r_iload_n C hl (kx := 2) rfl rfl dX11_whyNotWorn_39 ?_
    refine r_aload_n C hl (kx := 1) rfl rfl dX11_whyNotWorn_40 ?_
    obtain ⟨g1, hf⟩ := gd_some hf
    refine gf_11_207 C hw g1 dX11_whyNotWorn_41 ?_
    refine r_icmp_ge C (tgt := 100) (by decide) dX11_whyNotWorn_44 (fun c2 => ?_) (fun c2 => ?_)
    · have hf := ite_t c2 hf
      refine r_iconst C dX11_whyNotWorn_100 ?_
      exact r_iret C hw hf dX11_whyNotWorn_101
    · have hf := ite_f c2 hf
      refine r_aload_n C hl (kx := 1) rfl rfl dX11_whyNotWorn_47 ?_
      refine r_iload_n C hl (kx := 2) rfl rfl dX11_whyNotWorn_48 ?_
      obtain ⟨r4, μ3, e5, hf⟩ := bn_some hf
      refine r_callVv C hw (K := [(0, x2)]) ok10 g1 (c_X10_numberAt l D b g1 e5) mi_X10_numberAt in_X10_numberAt se_X10_numberAt kl_11_210 rfl rfl (lvh_sz hl) (by decide) (Kr := []) rfl (Nat.le_of_ble_eq_true rfl) dX11_whyNotWorn_49 (fun H locs hw => ?_)
      refine r_lstore_n C hl (by decide) (L' := [(3, 1, r4), (0, 2, x0), (1, 2, x1), (2, 0, x2)]) rfl rfl dX11_whyNotWorn_52 (fun ls hl => ?_)
      refine r_lload_n C hl (kx := 0) rfl rfl dX11_whyNotWorn_53 ?_
      refine r_lconst C (z := 0) (by decide) dX11_whyNotWorn_54 ?_
      refine r_lcmp C dX11_whyNotWorn_55 ?_
      refine r_if_lt C (tgt := 91) (by decide) dX11_whyNotWorn_56 (fun c6 => ?_) (fun c6 => ?_)
      · have hf := ite_t c6 hf
        refine r_bipush C (by decide) dX11_whyNotWorn_91 ?_
        exact r_iret C hw hf dX11_whyNotWorn_93
      · have hf := ite_f c6 hf
        refine r_lload_n C hl (kx := 0) rfl rfl dX11_whyNotWorn_59 ?_
        refine r_ldc2 C (z := 10) (by decide) kw1211 dX11_whyNotWorn_60 ?_
        refine r_ldiv C (by decide) dX11_whyNotWorn_63 ?_
        refine r_aload_n C hl (kx := 1) rfl rfl dX11_whyNotWorn_64 ?_
        refine gf_11_36 C hw t0 dX11_whyNotWorn_65 ?_
        refine gf_11_120 C hw (ow_11_6 t0) dX11_whyNotWorn_68 ?_
        obtain ⟨g7, hf⟩ := gd_some hf
        refine gf_11_275 C hw g7 dX11_whyNotWorn_71 ?_
        refine r_i2l C dX11_whyNotWorn_74 ?_
        refine r_lcmp C dX11_whyNotWorn_75 ?_
        refine r_if_ge C (tgt := 91) (by decide) dX11_whyNotWorn_76 (fun c8 => ?_) (fun c8 => ?_)
        · have hf := ite_t c8 hf
          refine r_bipush C (by decide) dX11_whyNotWorn_91 ?_
          exact r_iret C hw hf dX11_whyNotWorn_93
        · have hf := ite_f c8 hf
          refine r_lload_n C hl (kx := 0) rfl rfl dX11_whyNotWorn_79 ?_
          refine r_ldc2 C (z := 10) (by decide) kw1211 dX11_whyNotWorn_80 ?_
          refine r_lrem C (by decide) dX11_whyNotWorn_83 ?_
          refine r_ldc2 C (z := 6) (by decide) kw1212 dX11_whyNotWorn_84 ?_
          refine r_lcmp C dX11_whyNotWorn_87 ?_
          refine r_if_le C (tgt := 94) (by decide) dX11_whyNotWorn_88 (fun c9 => ?_) (fun c9 => ?_)
          · have hf := ite_t c9 hf
            refine r_iinc C hl (kx := 3) rfl (by decide) (L' := [(2, 0, (x2 + 1)), (3, 1, r4), (0, 2, x0), (1, 2, x1)]) rfl dX11_whyNotWorn_94 (fun ls hl => ?_)
            refine r_goto C (tgt := 39) (by decide) dX11_whyNotWorn_97 ?_
            exact ih _ _ _ _ _ _ _ hf t0 hw (lvh_sub hl [2, 3, 0] rfl)
          · have hf := ite_f c9 hf
            refine r_bipush C (by decide) dX11_whyNotWorn_91 ?_
            exact r_iret C hw hf dX11_whyNotWorn_93
set_option maxHeartbeats 4000000 in
set_option maxRecDepth 20000 in
theorem w_X11_whyNotWorn_0 (C : Cx p s m args meth c D b cX11_whyNotWorn 5 RX11 (some .int)) {r : Int} {μ' : Mem} {x0 x1 : Int} {μ : Mem} {H : Heap} {locs : List Loc} {ls : Array Slot} (hf : f_X11_whyNotWorn x0 x1 μ = some (r, μ')) (t0 : isK x0 11) (hw : Hw D b μ s.heap H locs) (hl : lvh b ls 5 [(0, 2, x0), (1, 2, x1)]) : W p l e (rm 1) s m args below meth c H locs 0 0 (QM below args s D b (some (.int (jI r))) μ') (F0 m 0 ls []) := by
  unfold f_X11_whyNotWorn at hf
  refine r_aload_n C hl (kx := 1) rfl rfl dX11_whyNotWorn_0 ?_
  refine r_ifnonnull C (tgt := 7) (by decide) dX11_whyNotWorn_1 (fun c1 => ?_) (fun c1 => ?_)
  · have hf := ite_f c1 hf
    refine r_aload_n C hl (kx := 1) rfl rfl dX11_whyNotWorn_7 ?_
    obtain ⟨g2, hf⟩ := gd_some hf
    refine gf_11_203 C hw g2 dX11_whyNotWorn_8 ?_
    refine r_if_eq C (tgt := 17) (by decide) dX11_whyNotWorn_11 (fun c3 => ?_) (fun c3 => ?_)
    · have hf := ite_t c3 hf
      refine r_aload_n C hl (kx := 1) rfl rfl dX11_whyNotWorn_17 ?_
      refine gf_11_207 C hw g2 dX11_whyNotWorn_18 ?_
      refine r_iconst C dX11_whyNotWorn_21 ?_
      refine r_icmp_lt C (tgt := 34) (by decide) dX11_whyNotWorn_22 (fun c4 => ?_) (fun c4 => ?_)
      · have hf := ite_t c4 hf
        refine r_bipush C (by decide) dX11_whyNotWorn_34 ?_
        exact r_iret C hw hf dX11_whyNotWorn_36
      · have hf := ite_f c4 hf
        refine r_aload_n C hl (kx := 1) rfl rfl dX11_whyNotWorn_25 ?_
        refine gf_11_207 C hw g2 dX11_whyNotWorn_26 ?_
        refine r_bipush C (by decide) dX11_whyNotWorn_29 ?_
        refine r_icmp_le C (tgt := 37) (by decide) dX11_whyNotWorn_31 (fun c5 => ?_) (fun c5 => ?_)
        · have hf := ite_t c5 hf
          refine r_iconst C dX11_whyNotWorn_37 ?_
          refine r_istore_n C hl (by decide) (L' := [(2, 0, 0), (0, 2, x0), (1, 2, x1)]) rfl rfl dX11_whyNotWorn_38 (fun ls hl => ?_)
          exact w_X11_whyNotWorn_39 C FU _ _ _ _ _ _ _ hf t0 hw (lvh_sub hl [1, 2, 0] rfl)
        · have hf := ite_f c5 hf
          refine r_bipush C (by decide) dX11_whyNotWorn_34 ?_
          exact r_iret C hw hf dX11_whyNotWorn_36
    · have hf := ite_f c3 hf
      refine r_bipush C (by decide) dX11_whyNotWorn_14 ?_
      exact r_iret C hw hf dX11_whyNotWorn_16
  · have hf := ite_t c1 hf
    refine r_bipush C (by decide) dX11_whyNotWorn_4 ?_
    exact r_iret C hw hf dX11_whyNotWorn_6
theorem c_X11_whyNotWorn (l : Launch) (D : Ds) (b : Nat) {x0 x1 : Int} {μ μ' : Mem} {r : Int} (t0 : isK x0 11) (hf : f_X11_whyNotWorn x0 x1 μ = some (r, μ')) : Ctr l D b yX11_whyNotWorn cX11_whyNotWorn 5 (some .int) 1 [(2, x0), (2, x1)] μ (some (.int (jI r))) μ' := by
  refine Ctr.of (by decide +kernel) (Nat.le_of_ble_eq_true rfl) ?_
  intro p e s m below meth c C hw ls hl
  exact w_X11_whyNotWorn_0 C hf t0 hw hl
set_option maxHeartbeats 4000000 in
set_option maxRecDepth 20000 in
theorem w_X11_wornByRain_0 (C : Cx p s m args meth c D b cX11_wornByRain 3 RX11 (some .int)) {r : Int} {μ' : Mem} {x0 x1 x2 : Int} {μ : Mem} {H : Heap} {locs : List Loc} {ls : Array Slot} (hf : f_X11_wornByRain x0 x1 x2 μ = some (r, μ')) (t0 : isK x0 11) (hw : Hw D b μ s.heap H locs) (hl : lvh b ls 3 [(0, 2, x0), (1, 0, x1), (2, 0, x2)]) : W p l e (rm 3) s m args below meth c H locs 0 0 (QM below args s D b (some (.int (jI r))) μ') (F0 m 0 ls []) := by
  unfold f_X11_wornByRain at hf
  refine r_aload_n C hl (kx := 0) rfl rfl dX11_wornByRain_0 ?_
  refine gf_11_36 C hw t0 dX11_wornByRain_1 ?_
  refine gf_11_120 C hw (ow_11_6 t0) dX11_wornByRain_4 ?_
  refine r_iload_n C hl (kx := 1) rfl rfl dX11_wornByRain_7 ?_
  refine r_aload_n C hl (kx := 0) rfl rfl dX11_wornByRain_8 ?_
  refine gf_11_36 C hw t0 dX11_wornByRain_9 ?_
  refine r_iload_n C hl (kx := 1) rfl rfl dX11_wornByRain_12 ?_
  obtain ⟨r2, μ1, e3, hf⟩ := bn_some hf
  refine r_callVv C hw (K := [(0, x1)]) ok0 (ow_11_6 t0) (c_X0_depthOf l D b (ow_11_6 t0) e3) mi_X0_depthOf in_X0_depthOf se_X0_depthOf kl_11_168 rfl rfl (lvh_sz hl) (by decide) (Kr := [(0, x1), (2, (μ (x0 + 58) 0))]) rfl (Nat.le_of_ble_eq_true rfl) dX11_wornByRain_13 (fun H locs hw => ?_)
  refine r_iload_n C hl (kx := 2) rfl rfl dX11_wornByRain_16 ?_
  obtain ⟨g4, hf⟩ := gd_some hf
  obtain ⟨r6, μ5, e7, hf⟩ := bn_some hf
  refine r_callVv C hw (K := [(0, x1), (0, r2), (0, x2)]) ok3 g4 (c_X3_wornFrom l D b g4 e7) mi_X3_wornFrom in_X3_wornFrom se_X3_wornFrom kl_11_154 rfl rfl (lvh_sz hl) (by decide) (Kr := []) rfl (Nat.le_of_ble_eq_true rfl) dX11_wornByRain_17 (fun H locs hw => ?_)
  exact r_iret C hw hf dX11_wornByRain_20
theorem c_X11_wornByRain (l : Launch) (D : Ds) (b : Nat) {x0 x1 x2 : Int} {μ μ' : Mem} {r : Int} (t0 : isK x0 11) (hf : f_X11_wornByRain x0 x1 x2 μ = some (r, μ')) : Ctr l D b yX11_wornByRain cX11_wornByRain 3 (some .int) 3 [(2, x0), (0, x1), (0, x2)] μ (some (.int (jI r))) μ' := by
  refine Ctr.of (by decide +kernel) (Nat.le_of_ble_eq_true rfl) ?_
  intro p e s m below meth c C hw ls hl
  exact w_X11_wornByRain_0 C hf t0 hw hl
set_option maxHeartbeats 4000000 in
set_option maxRecDepth 20000 in
theorem w_X11_rainsBy_85 (C : Cx p s m args meth c D b cX11_rainsBy 8 RX11 (some .int)) {r : Int} {μ' : Mem} (k4 : Int → Int → Int → Int → Mem → Option (Int × Mem)) (h4 : ∀ (x0 x1 x2 x3 : Int) (μ : Mem) (H : Heap) (locs : List Loc) (ls : Array Slot), k4 x0 x1 x2 x3 μ = some (r, μ') → isK x0 11 → Hw D b μ s.heap H locs → lvh b ls 8 [(0, 2, x0), (1, 2, x1), (2, 0, x2), (3, 0, x3)] → W p l e (rm 4) s m args below meth c H locs 0 0 (QM below args s D b (some (.int (jI r))) μ') (F0 m 4 ls [])) {x0 x1 x2 x3 : Int} {μ : Mem} {H : Heap} {locs : List Loc} {ls : Array Slot} (hf : f_X11_rainsBy_j85 k4 x0 x1 x2 x3 μ = some (r, μ')) (t0 : isK x0 11) (hw : Hw D b μ s.heap H locs) (hl : lvh b ls 8 [(0, 2, x0), (1, 2, x1), (2, 0, x2), (3, 0, x3)]) : W p l e (rm 4) s m args below meth c H locs 0 0 (QM below args s D b (some (.int (jI r))) μ') (F0 m 85 ls []) := by
  unfold f_X11_rainsBy_j85 at hf
  refine r_iinc C hl (kx := 3) rfl (by decide) (L' := [(3, 0, (x3 + 1)), (0, 2, x0), (1, 2, x1), (2, 0, x2)]) rfl dX11_rainsBy_85 (fun ls hl => ?_)
  refine r_goto C (tgt := 4) (by decide) dX11_rainsBy_88 ?_
  exact h4 _ _ _ _ _ _ _ _ hf t0 hw (lvh_sub hl [1, 2, 3, 0] rfl)
set_option maxHeartbeats 4000000 in
set_option maxRecDepth 20000 in
theorem w_X11_rainsBy_74 (C : Cx p s m args meth c D b cX11_rainsBy 8 RX11 (some .int)) {r : Int} {μ' : Mem} (k4 : Int → Int → Int → Int → Mem → Option (Int × Mem)) (h4 : ∀ (x0 x1 x2 x3 : Int) (μ : Mem) (H : Heap) (locs : List Loc) (ls : Array Slot), k4 x0 x1 x2 x3 μ = some (r, μ') → isK x0 11 → Hw D b μ s.heap H locs → lvh b ls 8 [(0, 2, x0), (1, 2, x1), (2, 0, x2), (3, 0, x3)] → W p l e (rm 4) s m args below meth c H locs 0 0 (QM below args s D b (some (.int (jI r))) μ') (F0 m 4 ls [])) {x0 x1 x2 x3 x4 : Int} {μ : Mem} {H : Heap} {locs : List Loc} {ls : Array Slot} (hf : f_X11_rainsBy_j74 k4 x0 x1 x2 x3 x4 μ = some (r, μ')) (t0 : isK x0 11) (hw : Hw D b μ s.heap H locs) (hl : lvh b ls 8 [(0, 2, x0), (1, 2, x1), (2, 0, x2), (3, 0, x3), (4, 0, x4)]) : W p l e (rm 4) s m args below meth c H locs 0 0 (QM below args s D b (some (.int (jI r))) μ') (F0 m 74 ls []) := by
  unfold f_X11_rainsBy_j74 at hf
  refine r_iload C hl (kx := 4) rfl dX11_rainsBy_74 ?_
  refine r_if_eq C (tgt := 85) (by decide) dX11_rainsBy_76 (fun c1 => ?_) (fun c1 => ?_)
  · have hf := ite_t c1 hf
    exact w_X11_rainsBy_85 C _ h4 hf t0 hw (lvh_sub hl [0, 1, 2, 3] rfl)
  · have hf := ite_f c1 hf
    refine r_iload_n C hl (kx := 2) rfl rfl dX11_rainsBy_79 ?_
    refine r_iconst C dX11_rainsBy_80 ?_
    refine r_iload_n C hl (kx := 3) rfl rfl dX11_rainsBy_81 ?_
    refine r_ishl C dX11_rainsBy_82 ?_
    refine r_ior C dX11_rainsBy_83 ?_
    obtain ⟨v2, e3, hf⟩ := nm_some hf
    refine top_i e3 ?_
    refine r_istore_n C hl (by decide) (L' := [(2, 0, v2), (0, 2, x0), (1, 2, x1), (3, 0, x3), (4, 0, x4)]) rfl rfl dX11_rainsBy_84 (fun ls hl => ?_)
    exact w_X11_rainsBy_85 C _ h4 hf t0 hw (lvh_sub hl [1, 2, 0, 3] rfl)
set_option maxHeartbeats 4000000 in
set_option maxRecDepth 20000 in
theorem w_X11_rainsBy_66 (C : Cx p s m args meth c D b cX11_rainsBy 8 RX11 (some .int)) {r : Int} {μ' : Mem} (k4 : Int → Int → Int → Int → Mem → Option (Int × Mem)) (h4 : ∀ (x0 x1 x2 x3 : Int) (μ : Mem) (H : Heap) (locs : List Loc) (ls : Array Slot), k4 x0 x1 x2 x3 μ = some (r, μ') → isK x0 11 → Hw D b μ s.heap H locs → lvh b ls 8 [(0, 2, x0), (1, 2, x1), (2, 0, x2), (3, 0, x3)] → W p l e (rm 4) s m args below meth c H locs 0 0 (QM below args s D b (some (.int (jI r))) μ') (F0 m 4 ls [])) (k16 : Int → Int → Int → Int → Int → Int → Mem → Option (Int × Mem)) (h16 : ∀ (x0 x1 x2 x3 x4 x5 : Int) (μ : Mem) (H : Heap) (locs : List Loc) (ls : Array Slot), k16 x0 x1 x2 x3 x4 x5 μ = some (r, μ') → isK x0 11 → Hw D b μ s.heap H locs → lvh b ls 8 [(0, 2, x0), (1, 2, x1), (2, 0, x2), (3, 0, x3), (4, 0, x4), (5, 0, x5)] → W p l e (rm 4) s m args below meth c H locs 0 0 (QM below args s D b (some (.int (jI r))) μ') (F0 m 16 ls [])) {x0 x1 x2 x3 x5 s0 : Int} {μ : Mem} {H : Heap} {locs : List Loc} {ls : Array Slot} (hf : f_X11_rainsBy_j66 k4 k16 x0 x1 x2 x3 x5 s0 μ = some (r, μ')) (t0 : isK x0 11) (hw : Hw D b μ s.heap H locs) (hl : lvh b ls 8 [(0, 2, x0), (1, 2, x1), (2, 0, x2), (3, 0, x3), (5, 0, x5)]) : W p l e (rm 4) s m args below meth c H locs 0 0 (QM below args s D b (some (.int (jI r))) μ') (F0 m 66 ls [.int (jI s0)]) := by
  unfold f_X11_rainsBy_j66 at hf
  refine r_istore C hl (by decide) (L' := [(4, 0, s0), (0, 2, x0), (1, 2, x1), (2, 0, x2), (3, 0, x3), (5, 0, x5)]) rfl dX11_rainsBy_66 (fun ls hl => ?_)
  refine r_iinc C hl (kx := 5) rfl (by decide) (L' := [(5, 0, (x5 + 1)), (4, 0, s0), (0, 2, x0), (1, 2, x1), (2, 0, x2), (3, 0, x3)]) rfl dX11_rainsBy_68 (fun ls hl => ?_)
  refine r_goto C (tgt := 16) (by decide) dX11_rainsBy_71 ?_
  exact h16 _ _ _ _ _ _ _ _ _ _ hf t0 hw (lvh_sub hl [2, 3, 4, 5, 1, 0] rfl)
set_option maxHeartbeats 4000000 in
set_option maxRecDepth 20000 in
theorem w_X11_rainsBy_16 (C : Cx p s m args meth c D b cX11_rainsBy 8 RX11 (some .int)) {r : Int} {μ' : Mem} (k4 : Int → Int → Int → Int → Mem → Option (Int × Mem)) (h4 : ∀ (x0 x1 x2 x3 : Int) (μ : Mem) (H : Heap) (locs : List Loc) (ls : Array Slot), k4 x0 x1 x2 x3 μ = some (r, μ') → isK x0 11 → Hw D b μ s.heap H locs → lvh b ls 8 [(0, 2, x0), (1, 2, x1), (2, 0, x2), (3, 0, x3)] → W p l e (rm 4) s m args below meth c H locs 0 0 (QM below args s D b (some (.int (jI r))) μ') (F0 m 4 ls [])) : ∀ (n : Nat) (x0 x1 x2 x3 x4 x5 : Int) (μ : Mem) (H : Heap) (locs : List Loc) (ls : Array Slot), f_X11_rainsBy_w16 k4 n x0 x1 x2 x3 x4 x5 μ = some (r, μ') → isK x0 11 → Hw D b μ s.heap H locs → lvh b ls 8 [(0, 2, x0), (1, 2, x1), (2, 0, x2), (3, 0, x3), (4, 0, x4), (5, 0, x5)] → W p l e (rm 4) s m args below meth c H locs 0 0 (QM below args s D b (some (.int (jI r))) μ') (F0 m 16 ls []) := by
  intro n
  induction n with
  | zero => intro x0 x1 x2 x3 x4 x5 μ H locs ls hf; cases hf
  | succ n ih =>
    intro x0 x1 x2 x3 x4 x5 μ H locs ls hf t0 hw hl
    rw [f_X11_rainsBy_w16.eq_2] at hf
    refine r_iload C hl (kx := 5) rfl dX11_rainsBy_16 ?_
    refine r_aload_n C hl (kx := 1) rfl rfl dX11_rainsBy_18 ?_
    obtain ⟨g1, hf⟩ := gd_some hf
    refine gf_11_207 C hw g1 dX11_rainsBy_19 ?_
    refine r_icmp_ge C (tgt := 74) (by decide) dX11_rainsBy_22 (fun c2 => ?_) (fun c2 => ?_)
    · have hf := ite_t c2 hf
      exact w_X11_rainsBy_74 C _ h4 hf t0 hw (lvh_sub hl [0, 1, 2, 3, 4] rfl)
    · have hf := ite_f c2 hf
      refine r_iload C hl (kx := 4) rfl dX11_rainsBy_25 ?_
      refine r_if_eq C (tgt := 74) (by decide) dX11_rainsBy_27 (fun c3 => ?_) (fun c3 => ?_)
      · have hf := ite_t c3 hf
        exact w_X11_rainsBy_74 C _ h4 hf t0 hw (lvh_sub hl [0, 1, 2, 3, 4] rfl)
      · have hf := ite_f c3 hf
        refine r_aload_n C hl (kx := 1) rfl rfl dX11_rainsBy_30 ?_
        refine r_iload C hl (kx := 5) rfl dX11_rainsBy_31 ?_
        obtain ⟨r5, μ4, e6, hf⟩ := bn_some hf
        refine r_callVv C hw (K := [(0, x5)]) ok10 g1 (c_X10_numberAt l D b g1 e6) mi_X10_numberAt in_X10_numberAt se_X10_numberAt kl_11_210 rfl rfl (lvh_sz hl) (by decide) (Kr := []) rfl (Nat.le_of_ble_eq_true rfl) dX11_rainsBy_33 (fun H locs hw => ?_)
        refine r_lstore C hl (by decide) (L' := [(6, 1, r5), (0, 2, x0), (1, 2, x1), (2, 0, x2), (3, 0, x3), (4, 0, x4), (5, 0, x5)]) rfl dX11_rainsBy_36 (fun ls hl => ?_)
        refine r_aload_n C hl (kx := 1) rfl rfl dX11_rainsBy_38 ?_
        refine r_lload C hl (kx := 0) rfl dX11_rainsBy_39 ?_
        refine r_ldc2 C (z := 10) (by decide) kw1211 dX11_rainsBy_41 ?_
        refine r_ldiv C (by decide) dX11_rainsBy_44 ?_
        refine r_l2i C dX11_rainsBy_45 ?_
        refine r_iload_n C hl (kx := 4) rfl rfl dX11_rainsBy_46 ?_
        obtain ⟨r8, μ7, e9, hf⟩ := bn_some hf
        refine r_callVv C hw (K := [(0, (kdiv r5 10)), (0, x3)]) ok11 t0 (c_X11_wornByRain l D b t0 e9) mi_X11_wornByRain in_X11_wornByRain se_X11_wornByRain kl_11_307 rfl rfl (lvh_sz hl) (by decide) (Kr := []) rfl (Nat.le_of_ble_eq_true rfl) dX11_rainsBy_47 (fun H locs hw => ?_)
        refine r_i2l C dX11_rainsBy_50 ?_
        refine r_lload C hl (kx := 0) rfl dX11_rainsBy_51 ?_
        refine r_ldc2 C (z := 10) (by decide) kw1211 dX11_rainsBy_53 ?_
        refine r_lrem C (by decide) dX11_rainsBy_56 ?_
        refine r_lcmp C dX11_rainsBy_57 ?_
        refine r_if_ne C (tgt := 65) (by decide) dX11_rainsBy_58 (fun c10 => ?_) (fun c10 => ?_)
        · have hf := ite_f c10 hf
          refine r_iconst C dX11_rainsBy_65 ?_
          exact w_X11_rainsBy_66 C _ h4 _ ih hf t0 hw (lvh_sub hl [1, 2, 3, 4, 6] rfl)
        · have hf := ite_t c10 hf
          refine r_iconst C dX11_rainsBy_61 ?_
          refine r_goto C (tgt := 66) (by decide) dX11_rainsBy_62 ?_
          exact w_X11_rainsBy_66 C _ h4 _ ih hf t0 hw (lvh_sub hl [1, 2, 3, 4, 6] rfl)
set_option maxHeartbeats 4000000 in
set_option maxRecDepth 20000 in
theorem w_X11_rainsBy_4 (C : Cx p s m args meth c D b cX11_rainsBy 8 RX11 (some .int)) {r : Int} {μ' : Mem} : ∀ (n : Nat) (x0 x1 x2 x3 : Int) (μ : Mem) (H : Heap) (locs : List Loc) (ls : Array Slot), f_X11_rainsBy_w4 n x0 x1 x2 x3 μ = some (r, μ') → isK x0 11 → Hw D b μ s.heap H locs → lvh b ls 8 [(0, 2, x0), (1, 2, x1), (2, 0, x2), (3, 0, x3)] → W p l e (rm 4) s m args below meth c H locs 0 0 (QM below args s D b (some (.int (jI r))) μ') (F0 m 4 ls []) := by
  intro n
  induction n with
  | zero => intro x0 x1 x2 x3 μ H locs ls hf; cases hf
  | succ n ih =>
    intro x0 x1 x2 x3 μ H locs ls hf t0 hw hl
    rw [f_X11_rainsBy_w4.eq_2] at hf
    refine r_iload_n C hl (kx := 3) rfl rfl dX11_rainsBy_4 ?_
    refine r_bipush C (by decide) dX11_rainsBy_5 ?_
    refine r_icmp_gt C (tgt := 91) (by decide) dX11_rainsBy_7 (fun c1 => ?_) (fun c1 => ?_)
    · have hf := ite_t c1 hf
      refine r_iload_n C hl (kx := 2) rfl rfl dX11_rainsBy_91 ?_
      exact r_iret C hw hf dX11_rainsBy_92
    · have hf := ite_f c1 hf
      refine r_iconst C dX11_rainsBy_10 ?_
      refine r_istore C hl (by decide) (L' := [(4, 0, 1), (0, 2, x0), (1, 2, x1), (2, 0, x2), (3, 0, x3)]) rfl dX11_rainsBy_11 (fun ls hl => ?_)
      refine r_iconst C dX11_rainsBy_13 ?_
      refine r_istore C hl (by decide) (L' := [(5, 0, 0), (4, 0, 1), (0, 2, x0), (1, 2, x1), (2, 0, x2), (3, 0, x3)]) rfl dX11_rainsBy_14 (fun ls hl => ?_)
      exact w_X11_rainsBy_16 C _ ih FU _ _ _ _ _ _ _ _ _ _ hf t0 hw (lvh_sub hl [2, 3, 4, 5, 1, 0] rfl)
set_option maxHeartbeats 4000000 in
set_option maxRecDepth 20000 in
theorem w_X11_rainsBy_0 (C : Cx p s m args meth c D b cX11_rainsBy 8 RX11 (some .int)) {r : Int} {μ' : Mem} {x0 x1 : Int} {μ : Mem} {H : Heap} {locs : List Loc} {ls : Array Slot} (hf : f_X11_rainsBy x0 x1 μ = some (r, μ')) (t0 : isK x0 11) (hw : Hw D b μ s.heap H locs) (hl : lvh b ls 8 [(0, 2, x0), (1, 2, x1)]) : W p l e (rm 4) s m args below meth c H locs 0 0 (QM below args s D b (some (.int (jI r))) μ') (F0 m 0 ls []) := by
  unfold f_X11_rainsBy at hf
  refine r_iconst C dX11_rainsBy_0 ?_
  refine r_istore_n C hl (by decide) (L' := [(2, 0, 0), (0, 2, x0), (1, 2, x1)]) rfl rfl dX11_rainsBy_1 (fun ls hl => ?_)
  refine r_iconst C dX11_rainsBy_2 ?_
  refine r_istore_n C hl (by decide) (L' := [(3, 0, 0), (2, 0, 0), (0, 2, x0), (1, 2, x1)]) rfl rfl dX11_rainsBy_3 (fun ls hl => ?_)
  exact w_X11_rainsBy_4 C FU _ _ _ _ _ _ _ _ hf t0 hw (lvh_sub hl [2, 3, 1, 0] rfl)
theorem c_X11_rainsBy (l : Launch) (D : Ds) (b : Nat) {x0 x1 : Int} {μ μ' : Mem} {r : Int} (t0 : isK x0 11) (hf : f_X11_rainsBy x0 x1 μ = some (r, μ')) : Ctr l D b yX11_rainsBy cX11_rainsBy 8 (some .int) 4 [(2, x0), (2, x1)] μ (some (.int (jI r))) μ' := by
  refine Ctr.of (by decide +kernel) (Nat.le_of_ble_eq_true rfl) ?_
  intro p e s m below meth c C hw ls hl
  exact w_X11_rainsBy_0 C hf t0 hw hl
set_option maxHeartbeats 4000000 in
set_option maxRecDepth 20000 in
theorem w_X11_rains_0 (C : Cx p s m args meth c D b cX11_rains 4 RX11 (some .int)) {r : Int} {μ' : Mem} {x0 x1 : Int} {μ : Mem} {H : Heap} {locs : List Loc} {ls : Array Slot} (hf : f_X11_rains x0 x1 μ = some (r, μ')) (t0 : isK x0 11) (hw : Hw D b μ s.heap H locs) (hl : lvh b ls 4 [(0, 2, x0), (1, 0, x1)]) : W p l e (rm 5) s m args below meth c H locs 0 0 (QM below args s D b (some (.int (jI r))) μ') (F0 m 0 ls []) := by
  unfold f_X11_rains at hf
  refine r_aload_n C hl (kx := 0) rfl rfl dX11_rains_0 ?_
  refine r_iload_n C hl (kx := 1) rfl rfl dX11_rains_1 ?_
  obtain ⟨r2, μ1, e3, hf⟩ := bn_some hf
  refine r_callVv C hw (K := [(0, x1)]) ok11 t0 (c_X11_trayOf l D b t0 e3) mi_X11_trayOf in_X11_trayOf se_X11_trayOf kl_11_199 rfl rfl (lvh_sz hl) (by decide) (Kr := []) rfl (Nat.le_of_ble_eq_true rfl) dX11_rains_2 (fun H locs hw => ?_)
  refine r_astore_n C hl (by decide) (L' := [(2, 2, r2), (0, 2, x0), (1, 0, x1)]) rfl rfl dX11_rains_5 (fun ls hl => ?_)
  refine r_aload_n C hl (kx := 1) rfl rfl dX11_rains_6 ?_
  refine r_aload_n C hl (kx := 0) rfl rfl dX11_rains_7 ?_
  obtain ⟨r5, μ4, e6, hf⟩ := bn_some hf
  refine r_callVv C hw (K := [(2, r2)]) ok11 t0 (c_X11_whyNotWorn l D b t0 e6) mi_X11_whyNotWorn in_X11_whyNotWorn se_X11_whyNotWorn kl_11_293 rfl rfl (lvh_sz hl) (by decide) (Kr := []) rfl (Nat.le_of_ble_eq_true rfl) dX11_rains_8 (fun H locs hw => ?_)
  refine r_istore_n C hl (by decide) (L' := [(3, 0, r5), (2, 2, r2), (0, 2, x0), (1, 0, x1)]) rfl rfl dX11_rains_11 (fun ls hl => ?_)
  refine r_iload_n C hl (kx := 0) rfl rfl dX11_rains_12 ?_
  refine r_if_eq C (tgt := 20) (by decide) dX11_rains_13 (fun c7 => ?_) (fun c7 => ?_)
  · have hf := ite_t c7 hf
    refine r_aload_n C hl (kx := 2) rfl rfl dX11_rains_20 ?_
    refine r_aload_n C hl (kx := 1) rfl rfl dX11_rains_21 ?_
    obtain ⟨r9, μ8, e10, hf⟩ := bn_some hf
    refine r_callVv C hw (K := [(2, r2)]) ok11 t0 (c_X11_rainsBy l D b t0 e10) mi_X11_rainsBy in_X11_rainsBy se_X11_rainsBy kl_11_297 rfl rfl (lvh_sz hl) (by decide) (Kr := []) rfl (Nat.le_of_ble_eq_true rfl) dX11_rains_22 (fun H locs hw => ?_)
    exact r_iret C hw hf dX11_rains_25
  · have hf := ite_f c7 hf
    refine r_iload_n C hl (kx := 0) rfl rfl dX11_rains_16 ?_
    refine r_goto C (tgt := 25) (by decide) dX11_rains_17 ?_
    exact r_iret C hw hf dX11_rains_25
theorem c_X11_rains (l : Launch) (D : Ds) (b : Nat) {x0 x1 : Int} {μ μ' : Mem} {r : Int} (t0 : isK x0 11) (hf : f_X11_rains x0 x1 μ = some (r, μ')) : Ctr l D b yX11_rains cX11_rains 4 (some .int) 5 [(2, x0), (0, x1)] μ (some (.int (jI r))) μ' := by
  refine Ctr.of (by decide +kernel) (Nat.le_of_ble_eq_true rfl) ?_
  intro p e s m below meth c C hw ls hl
  exact w_X11_rains_0 C hf t0 hw hl
set_option maxHeartbeats 4000000 in
set_option maxRecDepth 20000 in
theorem w_X11_mostAlike_47 (C : Cx p s m args meth c D b cX11_mostAlike 6 RX11 (some .int)) {r : Int} {μ' : Mem} : ∀ (n : Nat) (x3 x4 x5 : Int) (μ : Mem) (H : Heap) (locs : List Loc) (ls : Array Slot), f_X11_mostAlike_w47 n x3 x4 x5 μ = some (r, μ') → Hw D b μ s.heap H locs → lvh b ls 6 [(3, 0, x3), (4, 0, x4), (5, 0, x5)] → W p l e (rm 4) s m args below meth c H locs 0 0 (QM below args s D b (some (.int (jI r))) μ') (F0 m 47 ls []) := by
  intro n
  induction n with
  | zero => intro x3 x4 x5 μ H locs ls hf; cases hf
  | succ n ih =>
    intro x3 x4 x5 μ H locs ls hf hw hl
    rw [f_X11_mostAlike_w47.eq_2] at hf
    refine r_iload C hl (kx := 2) rfl dX11_mostAlike_47 ?_
    refine r_bipush C (by decide) dX11_mostAlike_49 ?_
    refine r_icmp_gt C (tgt := 76) (by decide) dX11_mostAlike_51 (fun c1 => ?_) (fun c1 => ?_)
    · have hf := ite_t c1 hf
      refine r_iload C hl (kx := 1) rfl dX11_mostAlike_76 ?_
      exact r_iret C hw hf dX11_mostAlike_78
    · have hf := ite_f c1 hf
      refine r_iload C hl (kx := 1) rfl dX11_mostAlike_54 ?_
      refine r_iload_n C hl (kx := 0) rfl rfl dX11_mostAlike_56 ?_
      refine r_iconst C dX11_mostAlike_57 ?_
      refine r_iload C hl (kx := 2) rfl dX11_mostAlike_58 ?_
      refine r_imul C dX11_mostAlike_60 ?_
      refine r_ishr C dX11_mostAlike_61 ?_
      refine r_bipush C (by decide) dX11_mostAlike_62 ?_
      refine r_iand C dX11_mostAlike_64 ?_
      obtain ⟨r3, μ2, e4, hf⟩ := bn_some hf
      refine r_callSv C hw (K := [(0, x4), (0, (jand (jshr x3 (4 * x5)) 15))]) (c_J9_max_7cf53 l D b e4) mi_J9_max_7cf53 st_J9_max_7cf53 kl_11_310 rfl rfl (lvh_sz hl) (by decide) (Kr := []) rfl (Nat.le_of_ble_eq_true rfl) dX11_mostAlike_65 (fun H locs hw => ?_)
      refine r_istore C hl (by decide) (L' := [(4, 0, r3), (3, 0, x3), (5, 0, x5)]) rfl dX11_mostAlike_68 (fun ls hl => ?_)
      refine r_iinc C hl (kx := 2) rfl (by decide) (L' := [(5, 0, (x5 + 1)), (4, 0, r3), (3, 0, x3)]) rfl dX11_mostAlike_70 (fun ls hl => ?_)
      refine r_goto C (tgt := 47) (by decide) dX11_mostAlike_73 ?_
      exact ih _ _ _ _ _ _ _ hf hw (lvh_sub hl [2, 1, 0] rfl)
set_option maxHeartbeats 4000000 in
set_option maxRecDepth 20000 in
theorem w_X11_mostAlike_35 (C : Cx p s m args meth c D b cX11_mostAlike 6 RX11 (some .int)) {r : Int} {μ' : Mem} (k5 : Int → Int → Int → Int → Int → Mem → Option (Int × Mem)) (h5 : ∀ (x0 x1 x2 x3 x4 : Int) (μ : Mem) (H : Heap) (locs : List Loc) (ls : Array Slot), k5 x0 x1 x2 x3 x4 μ = some (r, μ') → isK x0 11 → Hw D b μ s.heap H locs → lvh b ls 6 [(0, 2, x0), (1, 0, x1), (2, 0, x2), (3, 0, x3), (4, 0, x4)] → W p l e (rm 4) s m args below meth c H locs 0 0 (QM below args s D b (some (.int (jI r))) μ') (F0 m 5 ls [])) {x0 x1 x2 x3 x4 : Int} {μ : Mem} {H : Heap} {locs : List Loc} {ls : Array Slot} (hf : f_X11_mostAlike_j35 k5 x0 x1 x2 x3 x4 μ = some (r, μ')) (t0 : isK x0 11) (hw : Hw D b μ s.heap H locs) (hl : lvh b ls 6 [(0, 2, x0), (1, 0, x1), (2, 0, x2), (3, 0, x3), (4, 0, x4)]) : W p l e (rm 4) s m args below meth c H locs 0 0 (QM below args s D b (some (.int (jI r))) μ') (F0 m 35 ls []) := by
  unfold f_X11_mostAlike_j35 at hf
  refine r_iinc C hl (kx := 4) rfl (by decide) (L' := [(4, 0, (x4 + 1)), (0, 2, x0), (1, 0, x1), (2, 0, x2), (3, 0, x3)]) rfl dX11_mostAlike_35 (fun ls hl => ?_)
  refine r_goto C (tgt := 5) (by decide) dX11_mostAlike_38 ?_
  exact h5 _ _ _ _ _ _ _ _ _ hf t0 hw (lvh_sub hl [1, 2, 3, 4, 0] rfl)
set_option maxHeartbeats 4000000 in
set_option maxRecDepth 20000 in
theorem w_X11_mostAlike_5 (C : Cx p s m args meth c D b cX11_mostAlike 6 RX11 (some .int)) {r : Int} {μ' : Mem} : ∀ (n : Nat) (x0 x1 x2 x3 x4 : Int) (μ : Mem) (H : Heap) (locs : List Loc) (ls : Array Slot), f_X11_mostAlike_w5 n x0 x1 x2 x3 x4 μ = some (r, μ') → isK x0 11 → Hw D b μ s.heap H locs → lvh b ls 6 [(0, 2, x0), (1, 0, x1), (2, 0, x2), (3, 0, x3), (4, 0, x4)] → W p l e (rm 4) s m args below meth c H locs 0 0 (QM below args s D b (some (.int (jI r))) μ') (F0 m 5 ls []) := by
  intro n
  induction n with
  | zero => intro x0 x1 x2 x3 x4 μ H locs ls hf; cases hf
  | succ n ih =>
    intro x0 x1 x2 x3 x4 μ H locs ls hf t0 hw hl
    rw [f_X11_mostAlike_w5.eq_2] at hf
    refine r_iload C hl (kx := 4) rfl dX11_mostAlike_5 ?_
    refine r_bipush C (by decide) dX11_mostAlike_7 ?_
    refine r_icmp_gt C (tgt := 41) (by decide) dX11_mostAlike_9 (fun c1 => ?_) (fun c1 => ?_)
    · have hf := ite_t c1 hf
      refine r_iconst C dX11_mostAlike_41 ?_
      refine r_istore C hl (by decide) (L' := [(4, 0, 0), (0, 2, x0), (1, 0, x1), (2, 0, x2), (3, 0, x3)]) rfl dX11_mostAlike_42 (fun ls hl => ?_)
      refine r_iconst C dX11_mostAlike_44 ?_
      refine r_istore C hl (by decide) (L' := [(5, 0, 0), (4, 0, 0), (0, 2, x0), (1, 0, x1), (2, 0, x2), (3, 0, x3)]) rfl dX11_mostAlike_45 (fun ls hl => ?_)
      exact w_X11_mostAlike_47 C FU _ _ _ _ _ _ _ hf hw (lvh_sub hl [5, 1, 0] rfl)
    · have hf := ite_f c1 hf
      refine r_iload_n C hl (kx := 2) rfl rfl dX11_mostAlike_12 ?_
      refine r_iload C hl (kx := 4) rfl dX11_mostAlike_13 ?_
      refine r_ishr C dX11_mostAlike_15 ?_
      refine r_iconst C dX11_mostAlike_16 ?_
      refine r_iand C dX11_mostAlike_17 ?_
      refine r_if_eq C (tgt := 35) (by decide) dX11_mostAlike_18 (fun c2 => ?_) (fun c2 => ?_)
      · have hf := ite_t c2 hf
        exact w_X11_mostAlike_35 C _ ih hf t0 hw (lvh_sub hl [0, 1, 2, 3, 4] rfl)
      · have hf := ite_f c2 hf
        refine r_iload_n C hl (kx := 3) rfl rfl dX11_mostAlike_21 ?_
        refine r_iconst C dX11_mostAlike_22 ?_
        refine r_iconst C dX11_mostAlike_23 ?_
        refine r_aload_n C hl (kx := 0) rfl rfl dX11_mostAlike_24 ?_
        refine r_iload_n C hl (kx := 1) rfl rfl dX11_mostAlike_25 ?_
        refine r_iload C hl (kx := 4) rfl dX11_mostAlike_26 ?_
        obtain ⟨r4, μ3, e5, hf⟩ := bn_some hf
        refine r_callVv C hw (K := [(0, x1), (0, x4)]) ok11 t0 (c_X11_wornByRain l D b t0 e5) mi_X11_wornByRain in_X11_wornByRain se_X11_wornByRain kl_11_307 rfl rfl (lvh_sz hl) (by decide) (Kr := [(0, 4), (0, 1), (0, x3)]) rfl (Nat.le_of_ble_eq_true rfl) dX11_mostAlike_28 (fun H locs hw => ?_)
        refine r_imul C dX11_mostAlike_31 ?_
        refine r_ishl C dX11_mostAlike_32 ?_
        refine r_iadd C dX11_mostAlike_33 ?_
        obtain ⟨v6, e7, hf⟩ := nm_some hf
        refine top_i e7 ?_
        refine r_istore_n C hl (by decide) (L' := [(3, 0, v6), (0, 2, x0), (1, 0, x1), (2, 0, x2), (4, 0, x4)]) rfl rfl dX11_mostAlike_34 (fun ls hl => ?_)
        exact w_X11_mostAlike_35 C _ ih hf t0 hw (lvh_sub hl [1, 2, 3, 0, 4] rfl)
set_option maxHeartbeats 4000000 in
set_option maxRecDepth 20000 in
theorem w_X11_mostAlike_0 (C : Cx p s m args meth c D b cX11_mostAlike 6 RX11 (some .int)) {r : Int} {μ' : Mem} {x0 x1 x2 : Int} {μ : Mem} {H : Heap} {locs : List Loc} {ls : Array Slot} (hf : f_X11_mostAlike x0 x1 x2 μ = some (r, μ')) (t0 : isK x0 11) (hw : Hw D b μ s.heap H locs) (hl : lvh b ls 6 [(0, 2, x0), (1, 0, x1), (2, 0, x2)]) : W p l e (rm 4) s m args below meth c H locs 0 0 (QM below args s D b (some (.int (jI r))) μ') (F0 m 0 ls []) := by
  unfold f_X11_mostAlike at hf
  refine r_iconst C dX11_mostAlike_0 ?_
  refine r_istore_n C hl (by decide) (L' := [(3, 0, 0), (0, 2, x0), (1, 0, x1), (2, 0, x2)]) rfl rfl dX11_mostAlike_1 (fun ls hl => ?_)
  refine r_iconst C dX11_mostAlike_2 ?_
  refine r_istore C hl (by decide) (L' := [(4, 0, 0), (3, 0, 0), (0, 2, x0), (1, 0, x1), (2, 0, x2)]) rfl dX11_mostAlike_3 (fun ls hl => ?_)
  exact w_X11_mostAlike_5 C FU _ _ _ _ _ _ _ _ _ hf t0 hw (lvh_sub hl [2, 3, 4, 1, 0] rfl)
theorem c_X11_mostAlike (l : Launch) (D : Ds) (b : Nat) {x0 x1 x2 : Int} {μ μ' : Mem} {r : Int} (t0 : isK x0 11) (hf : f_X11_mostAlike x0 x1 x2 μ = some (r, μ')) : Ctr l D b yX11_mostAlike cX11_mostAlike 6 (some .int) 4 [(2, x0), (0, x1), (0, x2)] μ (some (.int (jI r))) μ' := by
  refine Ctr.of (by decide +kernel) (Nat.le_of_ble_eq_true rfl) ?_
  intro p e s m below meth c C hw ls hl
  exact w_X11_mostAlike_0 C hf t0 hw hl
end WALK
