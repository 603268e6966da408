section WALK
variable {p : Program} {l : Launch} {e : Env} {s : State} {m : MethodId} {args : Array Value} {below : List Frame} {meth : Method} {c : Code} {H : Heap} {locs : List Loc} {D : Ds} {b : Nat} {n0 : Nat}
set_option maxHeartbeats 4000000 in
set_option maxRecDepth 20000 in
theorem w_X11_attempt_85 (C : Cx p s m args meth c D b cX11_attempt 9 RX11 (some .int)) {r : Int} {μ' : Mem} (k34 : Int → Int → Int → Int → Int → Mem → Option (Int × Mem)) (h34 : ∀ (x0 x4 x5 x6 x7 : Int) (μ : Mem) (H : Heap) (locs : List Loc) (ls : Array Slot), k34 x0 x4 x5 x6 x7 μ = some (r, μ') → isK x0 11 → Hw D b μ s.heap H locs → lvh b ls 9 [(0, 2, x0), (4, 0, x4), (5, 0, x5), (6, 0, x6), (7, 0, x7)] → W p l e (rm 5) s m args below meth c H locs 0 0 (QM below args s D b (some (.int (jI r))) μ') (F0 m 34 ls [])) {x0 x4 x5 x6 x7 : Int} {μ : Mem} {H : Heap} {locs : List Loc} {ls : Array Slot} (hf : f_X11_attempt_j85 k34 x0 x4 x5 x6 x7 μ = some (r, μ')) (t0 : isK x0 11) (hw : Hw D b μ s.heap H locs) (hl : lvh b ls 9 [(0, 2, x0), (4, 0, x4), (5, 0, x5), (6, 0, x6), (7, 0, x7)]) : W p l e (rm 5) s m args below meth c H locs 0 0 (QM below args s D b (some (.int (jI r))) μ') (F0 m 85 ls []) := by
  unfold f_X11_attempt_j85 at hf
  refine r_iinc C hl (kx := 4) rfl (by decide) (L' := [(7, 0, (x7 + 1)), (0, 2, x0), (4, 0, x4), (5, 0, x5), (6, 0, x6)]) rfl dX11_attempt_85 (fun ls hl => ?_)
  refine r_goto C (tgt := 34) (by decide) dX11_attempt_88 ?_
  exact h34 _ _ _ _ _ _ _ _ _ hf t0 hw (lvh_sub hl [1, 2, 3, 4, 0] rfl)
set_option maxHeartbeats 4000000 in
set_option maxRecDepth 20000 in
theorem w_X11_attempt_77 (C : Cx p s m args meth c D b cX11_attempt 9 RX11 (some .int)) {r : Int} {μ' : Mem} (k34 : Int → Int → Int → Int → Int → Mem → Option (Int × Mem)) (h34 : ∀ (x0 x4 x5 x6 x7 : Int) (μ : Mem) (H : Heap) (locs : List Loc) (ls : Array Slot), k34 x0 x4 x5 x6 x7 μ = some (r, μ') → isK x0 11 → Hw D b μ s.heap H locs → lvh b ls 9 [(0, 2, x0), (4, 0, x4), (5, 0, x5), (6, 0, x6), (7, 0, x7)] → W p l e (rm 5) s m args below meth c H locs 0 0 (QM below args s D b (some (.int (jI r))) μ') (F0 m 34 ls [])) {x0 x4 x7 x8 : Int} {μ : Mem} {H : Heap} {locs : List Loc} {ls : Array Slot} (hf : f_X11_attempt_j77 k34 x0 x4 x7 x8 μ = some (r, μ')) (t0 : isK x0 11) (hw : Hw D b μ s.heap H locs) (hl : lvh b ls 9 [(0, 2, x0), (4, 0, x4), (7, 0, x7), (8, 0, x8)]) : W p l e (rm 5) s m args below meth c H locs 0 0 (QM below args s D b (some (.int (jI r))) μ') (F0 m 77 ls []) := by
  unfold f_X11_attempt_j77 at hf
  refine r_iload C hl (kx := 2) rfl dX11_attempt_77 ?_
  refine r_istore C hl (by decide) (L' := [(5, 0, x7), (0, 2, x0), (4, 0, x4), (7, 0, x7), (8, 0, x8)]) rfl dX11_attempt_79 (fun ls hl => ?_)
  refine r_iload C hl (kx := 4) rfl dX11_attempt_81 ?_
  refine r_istore C hl (by decide) (L' := [(6, 0, x8), (5, 0, x7), (0, 2, x0), (4, 0, x4), (7, 0, x7), (8, 0, x8)]) rfl dX11_attempt_83 (fun ls hl => ?_)
  exact w_X11_attempt_85 C _ h34 hf t0 hw (lvh_sub hl [2, 3, 1, 0, 4] rfl)
set_option maxHeartbeats 4000000 in
set_option maxRecDepth 20000 in
theorem w_X11_attempt_34 (C : Cx p s m args meth c D b cX11_attempt 9 RX11 (some .int)) {r : Int} {μ' : Mem} : ∀ (n : Nat) (x0 x4 x5 x6 x7 : Int) (μ : Mem) (H : Heap) (locs : List Loc) (ls : Array Slot), f_X11_attempt_w34 n x0 x4 x5 x6 x7 μ = some (r, μ') → isK x0 11 → Hw D b μ s.heap H locs → lvh b ls 9 [(0, 2, x0), (4, 0, x4), (5, 0, x5), (6, 0, x6), (7, 0, x7)] → W p l e (rm 5) s m args below meth c H locs 0 0 (QM below args s D b (some (.int (jI r))) μ') (F0 m 34 ls []) := by
  intro n
  induction n with
  | zero => intro x0 x4 x5 x6 x7 μ H locs ls hf; cases hf
  | succ n ih =>
    intro x0 x4 x5 x6 x7 μ H locs ls hf t0 hw hl
    rw [f_X11_attempt_w34.eq_2] at hf
    refine r_iload C hl (kx := 1) rfl dX11_attempt_34 ?_
    refine r_if_eq C (tgt := 91) (by decide) dX11_attempt_36 (fun c1 => ?_) (fun c1 => ?_)
    · have hf := ite_t c1 hf
      refine r_iload C hl (kx := 2) rfl dX11_attempt_91 ?_
      exact r_iret C hw hf dX11_attempt_93
    · have hf := ite_f c1 hf
      refine r_iload C hl (kx := 4) rfl dX11_attempt_39 ?_
      refine r_aload_n C hl (kx := 0) rfl rfl dX11_attempt_41 ?_
      refine gf_11_36 C hw t0 dX11_attempt_42 ?_
      refine gf_11_120 C hw (ow_11_6 t0) dX11_attempt_45 ?_
      obtain ⟨g2, hf⟩ := gd_some hf
      refine gf_11_275 C hw g2 dX11_attempt_48 ?_
      refine r_icmp_ge C (tgt := 91) (by decide) dX11_attempt_51 (fun c3 => ?_) (fun c3 => ?_)
      · have hf := ite_t c3 hf
        refine r_iload C hl (kx := 2) rfl dX11_attempt_91 ?_
        exact r_iret C hw hf dX11_attempt_93
      · have hf := ite_f c3 hf
        refine r_aload_n C hl (kx := 0) rfl rfl dX11_attempt_54 ?_
        refine r_iload C hl (kx := 4) rfl dX11_attempt_55 ?_
        refine r_iload C hl (kx := 1) rfl dX11_attempt_57 ?_
        obtain ⟨r5, μ4, e6, hf⟩ := bn_some hf
        refine r_callVv C hw (K := [(0, x7), (0, x4)]) ok11 t0 (c_X11_mostAlike l D b t0 e6) mi_X11_mostAlike in_X11_mostAlike se_X11_mostAlike kl_11_300 rfl rfl (lvh_sz hl) (by decide) (Kr := []) rfl (Nat.le_of_ble_eq_true rfl) dX11_attempt_59 (fun H locs hw => ?_)
        refine r_istore C hl (by decide) (L' := [(8, 0, r5), (0, 2, x0), (4, 0, x4), (5, 0, x5), (6, 0, x6), (7, 0, x7)]) rfl dX11_attempt_62 (fun ls hl => ?_)
        refine r_iload C hl (kx := 3) rfl dX11_attempt_64 ?_
        refine r_iconst C dX11_attempt_66 ?_
        refine r_icmp_eq C (tgt := 77) (by decide) dX11_attempt_67 (fun c7 => ?_) (fun c7 => ?_)
        · have hf := ite_t c7 hf
          exact w_X11_attempt_77 C _ ih hf t0 hw (lvh_sub hl [1, 2, 5, 0] rfl)
        · have hf := ite_f c7 hf
          refine r_iload C hl (kx := 0) rfl dX11_attempt_70 ?_
          refine r_iload C hl (kx := 4) rfl dX11_attempt_72 ?_
          refine r_icmp_ge C (tgt := 85) (by decide) dX11_attempt_74 (fun c8 => ?_) (fun c8 => ?_)
          · have hf := ite_t c8 hf
            exact w_X11_attempt_85 C _ ih hf t0 hw (lvh_sub hl [1, 2, 3, 4, 5] rfl)
          · have hf := ite_f c8 hf
            exact w_X11_attempt_77 C _ ih hf t0 hw (lvh_sub hl [1, 2, 5, 0] rfl)
set_option maxHeartbeats 4000000 in
set_option maxRecDepth 20000 in
theorem w_X11_attempt_0 (C : Cx p s m args meth c D b cX11_attempt 9 RX11 (some .int)) {r : Int} {μ' : Mem} {x0 x1 : Int} {μ : Mem} {H : Heap} {locs : List Loc} {ls : Array Slot} (hf : f_X11_attempt x0 x1 μ = some (r, μ')) (t0 : isK x0 11) (hw : Hw D b μ s.heap H locs) (hl : lvh b ls 9 [(0, 2, x0), (1, 0, x1)]) : W p l e (rm 5) s m args below meth c H locs 0 0 (QM below args s D b (some (.int (jI r))) μ') (F0 m 0 ls []) := by
  unfold f_X11_attempt at hf
  refine r_aload_n C hl (kx := 0) rfl rfl dX11_attempt_0 ?_
  refine r_iload_n C hl (kx := 1) rfl rfl dX11_attempt_1 ?_
  obtain ⟨r2, μ1, e3, hf⟩ := bn_some hf
  refine r_callVv C hw (K := [(0, x1)]) ok11 t0 (c_X11_trayOf l D b t0 e3) mi_X11_trayOf in_X11_trayOf se_X11_trayOf kl_11_199 rfl rfl (lvh_sz hl) (by decide) (Kr := []) rfl (Nat.le_of_ble_eq_true rfl) dX11_attempt_2 (fun H locs hw => ?_)
  refine r_astore_n C hl (by decide) (L' := [(2, 2, r2), (0, 2, x0), (1, 0, x1)]) rfl rfl dX11_attempt_5 (fun ls hl => ?_)
  refine r_aload_n C hl (kx := 1) rfl rfl dX11_attempt_6 ?_
  refine r_aload_n C hl (kx := 0) rfl rfl dX11_attempt_7 ?_
  obtain ⟨r5, μ4, e6, hf⟩ := bn_some hf
  refine r_callVv C hw (K := [(2, r2)]) ok11 t0 (c_X11_whyNotWorn l D b t0 e6) mi_X11_whyNotWorn in_X11_whyNotWorn se_X11_whyNotWorn kl_11_293 rfl rfl (lvh_sz hl) (by decide) (Kr := []) rfl (Nat.le_of_ble_eq_true rfl) dX11_attempt_8 (fun H locs hw => ?_)
  refine r_istore_n C hl (by decide) (L' := [(3, 0, r5), (2, 2, r2), (0, 2, x0), (1, 0, x1)]) rfl rfl dX11_attempt_11 (fun ls hl => ?_)
  refine r_iload_n C hl (kx := 0) rfl rfl dX11_attempt_12 ?_
  refine r_if_eq C (tgt := 18) (by decide) dX11_attempt_13 (fun c7 => ?_) (fun c7 => ?_)
  · have hf := ite_t c7 hf
    refine r_aload_n C hl (kx := 2) rfl rfl dX11_attempt_18 ?_
    refine r_aload_n C hl (kx := 1) rfl rfl dX11_attempt_19 ?_
    obtain ⟨r9, μ8, e10, hf⟩ := bn_some hf
    refine r_callVv C hw (K := [(2, r2)]) ok11 t0 (c_X11_rainsBy l D b t0 e10) mi_X11_rainsBy in_X11_rainsBy se_X11_rainsBy kl_11_297 rfl rfl (lvh_sz hl) (by decide) (Kr := []) rfl (Nat.le_of_ble_eq_true rfl) dX11_attempt_20 (fun H locs hw => ?_)
    refine r_istore C hl (by decide) (L' := [(4, 0, r9), (3, 0, r5), (2, 2, r2), (0, 2, x0), (1, 0, x1)]) rfl dX11_attempt_23 (fun ls hl => ?_)
    refine r_iconst C dX11_attempt_25 ?_
    refine r_istore C hl (by decide) (L' := [(5, 0, (-1)), (4, 0, r9), (3, 0, r5), (2, 2, r2), (0, 2, x0), (1, 0, x1)]) rfl dX11_attempt_26 (fun ls hl => ?_)
    refine r_iconst C dX11_attempt_28 ?_
    refine r_istore C hl (by decide) (L' := [(6, 0, 0), (5, 0, (-1)), (4, 0, r9), (3, 0, r5), (2, 2, r2), (0, 2, x0), (1, 0, x1)]) rfl dX11_attempt_29 (fun ls hl => ?_)
    refine r_iconst C dX11_attempt_31 ?_
    refine r_istore C hl (by decide) (L' := [(7, 0, 0), (6, 0, 0), (5, 0, (-1)), (4, 0, r9), (3, 0, r5), (2, 2, r2), (0, 2, x0), (1, 0, x1)]) rfl dX11_attempt_32 (fun ls hl => ?_)
    exact w_X11_attempt_34 C FU _ _ _ _ _ _ _ _ _ hf t0 hw (lvh_sub hl [6, 3, 2, 1, 0] rfl)
  · have hf := ite_f c7 hf
    refine r_iload_n C hl (kx := 0) rfl rfl dX11_attempt_16 ?_
    exact r_iret C hw hf dX11_attempt_17
theorem c_X11_attempt (l : Launch) (D : Ds) (b : Nat) {x0 x1 : Int} {μ μ' : Mem} {r : Int} (t0 : isK x0 11) (hf : f_X11_attempt x0 x1 μ = some (r, μ')) : Ctr l D b yX11_attempt cX11_attempt 9 (some .int) 5 [(2, x0), (0, x1)] μ (some (.int (jI r))) μ' := by
  refine Ctr.of (by decide +kernel) (Nat.le_of_ble_eq_true rfl) ?_
  intro p e s m below meth c C hw ls hl
  exact w_X11_attempt_0 C hf t0 hw hl
set_option maxHeartbeats 4000000 in
set_option maxRecDepth 20000 in
theorem w_X11_wins_0 (C : Cx p s m args meth c D b cX11_wins 1 RX11 (some .int)) {r : Int} {μ' : Mem} {x0 : Int} {μ : Mem} {H : Heap} {locs : List Loc} {ls : Array Slot} (hf : f_X11_wins x0 μ = some (r, μ')) (t0 : isK x0 11) (hw : Hw D b μ s.heap H locs) (hl : lvh b ls 1 [(0, 2, x0)]) : W p l e (rm 5) s m args below meth c H locs 0 0 (QM below args s D b (some (.int (jI r))) μ') (F0 m 0 ls []) := by
  unfold f_X11_wins at hf
  refine r_aload_n C hl (kx := 0) rfl rfl dX11_wins_0 ?_
  refine gf_11_78 C hw t0 dX11_wins_1 ?_
  refine r_aload_n C hl (kx := 0) rfl rfl dX11_wins_4 ?_
  refine gf_11_36 C hw t0 dX11_wins_5 ?_
  obtain ⟨r2, μ1, e3, hf⟩ := bn_some hf
  refine r_callVv C hw (K := [(2, (x0 + 58))]) ok1 (ow_11_14 t0) (c_X1_firstWinning l D b (ow_11_14 t0) e3) mi_X1_firstWinning in_X1_firstWinning se_X1_firstWinning kl_11_315 rfl rfl (lvh_sz hl) (by decide) (Kr := []) rfl (Nat.le_of_ble_eq_true rfl) dX11_wins_8 (fun H locs hw => ?_)
  refine r_iconst C dX11_wins_11 ?_
  refine r_icmp_ne C (tgt := 19) (by decide) dX11_wins_12 (fun c4 => ?_) (fun c4 => ?_)
  · have hf := ite_f c4 hf
    refine r_iconst C dX11_wins_19 ?_
    exact r_iret C hw hf dX11_wins_20
  · have hf := ite_t c4 hf
    refine r_iconst C dX11_wins_15 ?_
    refine r_goto C (tgt := 20) (by decide) dX11_wins_16 ?_
    exact r_iret C hw hf dX11_wins_20
theorem c_X11_wins (l : Launch) (D : Ds) (b : Nat) {x0 : Int} {μ μ' : Mem} {r : Int} (t0 : isK x0 11) (hf : f_X11_wins x0 μ = some (r, μ')) : Ctr l D b yX11_wins cX11_wins 1 (some .int) 5 [(2, x0)] μ (some (.int (jI r))) μ' := by
  refine Ctr.of (by decide +kernel) (Nat.le_of_ble_eq_true rfl) ?_
  intro p e s m below meth c C hw ls hl
  exact w_X11_wins_0 C hf t0 hw hl
set_option maxHeartbeats 4000000 in
set_option maxRecDepth 20000 in
theorem w_X11_best_0 (C : Cx p s m args meth c D b cX11_best 1 RX11 (some .int)) {r : Int} {μ' : Mem} {x0 : Int} {μ : Mem} {H : Heap} {locs : List Loc} {ls : Array Slot} (hf : f_X11_best x0 μ = some (r, μ')) (t0 : isK x0 11) (hw : Hw D b μ s.heap H locs) (hl : lvh b ls 1 [(0, 2, x0)]) : W p l e (rm 5) s m args below meth c H locs 0 0 (QM below args s D b (some (.int (jI r))) μ') (F0 m 0 ls []) := by
  unfold f_X11_best at hf
  refine r_aload_n C hl (kx := 0) rfl rfl dX11_best_0 ?_
  refine gf_11_78 C hw t0 dX11_best_1 ?_
  refine r_aload_n C hl (kx := 0) rfl rfl dX11_best_4 ?_
  refine gf_11_36 C hw t0 dX11_best_5 ?_
  obtain ⟨r2, μ1, e3, hf⟩ := bn_some hf
  refine r_callVv C hw (K := [(2, (x0 + 58))]) ok1 (ow_11_14 t0) (c_X1_firstWinning l D b (ow_11_14 t0) e3) mi_X1_firstWinning in_X1_firstWinning se_X1_firstWinning kl_11_315 rfl rfl (lvh_sz hl) (by decide) (Kr := []) rfl (Nat.le_of_ble_eq_true rfl) dX11_best_8 (fun H locs hw => ?_)
  exact r_iret C hw hf dX11_best_11
theorem c_X11_best (l : Launch) (D : Ds) (b : Nat) {x0 : Int} {μ μ' : Mem} {r : Int} (t0 : isK x0 11) (hf : f_X11_best x0 μ = some (r, μ')) : Ctr l D b yX11_best cX11_best 1 (some .int) 5 [(2, x0)] μ (some (.int (jI r))) μ' := by
  refine Ctr.of (by decide +kernel) (Nat.le_of_ble_eq_true rfl) ?_
  intro p e s m below meth c C hw ls hl
  exact w_X11_best_0 C hf t0 hw hl
set_option maxHeartbeats 4000000 in
set_option maxRecDepth 20000 in
theorem w_X11_chance_0 (C : Cx p s m args meth c D b cX11_chance 7 RX11 (some .int)) {r : Int} {μ' : Mem} {x0 x1 x2 x3 : Int} {μ : Mem} {H : Heap} {locs : List Loc} {ls : Array Slot} (hf : f_X11_chance x0 x1 x2 x3 μ = some (r, μ')) (t0 : isK x0 11) (hw : Hw D b μ s.heap H locs) (hl : lvh b ls 7 [(0, 2, x0), (1, 0, x1), (2, 0, x2), (3, 0, x3)]) : W p l e (rm 5) s m args below meth c H locs 0 0 (QM below args s D b (some (.int (jI r))) μ') (F0 m 0 ls []) := by
  unfold f_X11_chance at hf
  refine r_aload_n C hl (kx := 0) rfl rfl dX11_chance_0 ?_
  refine gf_11_36 C hw t0 dX11_chance_1 ?_
  refine gf_11_120 C hw (ow_11_6 t0) dX11_chance_4 ?_
  refine r_iload_n C hl (kx := 1) rfl rfl dX11_chance_7 ?_
  obtain ⟨g1, hf⟩ := gd_some hf
  obtain ⟨r3, μ2, e4, hf⟩ := bn_some hf
  refine r_callVv C hw (K := [(0, x1)]) ok3 g1 (c_X3_hasPlace l D b g1 e4) mi_X3_hasPlace in_X3_hasPlace se_X3_hasPlace kl_11_230 rfl rfl (lvh_sz hl) (by decide) (Kr := []) rfl (Nat.le_of_ble_eq_true rfl) dX11_chance_8 (fun H locs hw => ?_)
  refine r_if_eq C (tgt := 23) (by decide) dX11_chance_11 (fun c5 => ?_) (fun c5 => ?_)
  · have hf := ite_t c5 hf
    refine r_bipush C (by decide) dX11_chance_23 ?_
    exact r_iret C hw hf dX11_chance_25
  · have hf := ite_f c5 hf
    refine r_iload_n C hl (kx := 3) rfl rfl dX11_chance_14 ?_
    refine r_if_lt C (tgt := 23) (by decide) dX11_chance_15 (fun c6 => ?_) (fun c6 => ?_)
    · have hf := ite_t c6 hf
      refine r_bipush C (by decide) dX11_chance_23 ?_
      exact r_iret C hw hf dX11_chance_25
    · have hf := ite_f c6 hf
      refine r_iload_n C hl (kx := 3) rfl rfl dX11_chance_18 ?_
      refine r_iconst C dX11_chance_19 ?_
      refine r_icmp_le C (tgt := 26) (by decide) dX11_chance_20 (fun c7 => ?_) (fun c7 => ?_)
      · have hf := ite_t c7 hf
        refine r_iload_n C hl (kx := 2) rfl rfl dX11_chance_26 ?_
        refine r_if_lt C (tgt := 36) (by decide) dX11_chance_27 (fun c8 => ?_) (fun c8 => ?_)
        · have hf := ite_t c8 hf
          refine r_bipush C (by decide) dX11_chance_36 ?_
          exact r_iret C hw hf dX11_chance_38
        · have hf := ite_f c8 hf
          refine r_iload_n C hl (kx := 2) rfl rfl dX11_chance_30 ?_
          refine r_bipush C (by decide) dX11_chance_31 ?_
          refine r_icmp_le C (tgt := 39) (by decide) dX11_chance_33 (fun c9 => ?_) (fun c9 => ?_)
          · have hf := ite_t c9 hf
            refine r_aload_n C hl (kx := 0) rfl rfl dX11_chance_39 ?_
            refine gf_11_85 C hw t0 dX11_chance_40 ?_
            refine r_aload_n C hl (kx := 0) rfl rfl dX11_chance_43 ?_
            refine gf_11_36 C hw t0 dX11_chance_44 ?_
            refine r_iload_n C hl (kx := 1) rfl rfl dX11_chance_47 ?_
            refine r_iload_n C hl (kx := 2) rfl rfl dX11_chance_48 ?_
            obtain ⟨r11, μ10, e12, hf⟩ := bn_some hf
            refine r_callVn C hw (K := [(2, (x0 + 58)), (0, x1), (0, x2)]) ok5 (ow_11_15 t0) (c_X5_weigh l D b (ow_11_15 t0) e12) mi_X5_weigh in_X5_weigh se_X5_weigh kl_11_319 rfl rfl (lvh_sz hl) (by decide) (Kr := []) rfl (Nat.le_of_ble_eq_true rfl) dX11_chance_49 (fun H locs hw => ?_)
            refine r_aload_n C hl (kx := 0) rfl rfl dX11_chance_52 ?_
            refine gf_11_85 C hw t0 dX11_chance_53 ?_
            refine r_aload_n C hl (kx := 0) rfl rfl dX11_chance_56 ?_
            refine gf_11_36 C hw t0 dX11_chance_57 ?_
            refine gf_11_165 C hw (ow_11_6 t0) dX11_chance_60 ?_
            obtain ⟨r14, μ13, e15, hf⟩ := bn_some hf
            refine r_callVv C hw (K := [(0, (μ10 (x0 + 58) 1))]) ok5 (ow_11_15 t0) (c_X5_aboveAt l D b (ow_11_15 t0) e15) mi_X5_aboveAt in_X5_aboveAt se_X5_aboveAt kl_11_323 rfl rfl (lvh_sz hl) (by decide) (Kr := []) rfl (Nat.le_of_ble_eq_true rfl) dX11_chance_63 (fun H locs hw => ?_)
            refine r_istore C hl (by decide) (L' := [(4, 0, r14), (0, 2, x0), (1, 0, x1), (2, 0, x2), (3, 0, x3)]) rfl dX11_chance_66 (fun ls hl => ?_)
            refine r_aload_n C hl (kx := 1) rfl rfl dX11_chance_68 ?_
            refine gf_11_85 C hw t0 dX11_chance_69 ?_
            obtain ⟨r17, μ16, e18, hf⟩ := bn_some hf
            refine r_callVv C hw (K := []) ok5 (ow_11_15 t0) (c_X5_belowAll l D b (ow_11_15 t0) e18) mi_X5_belowAll in_X5_belowAll se_X5_belowAll kl_11_326 rfl rfl (lvh_sz hl) (by decide) (Kr := []) rfl (Nat.le_of_ble_eq_true rfl) dX11_chance_72 (fun H locs hw => ?_)
            refine r_istore C hl (by decide) (L' := [(5, 0, r17), (4, 0, r14), (0, 2, x0), (1, 0, x1), (2, 0, x2), (3, 0, x3)]) rfl dX11_chance_75 (fun ls hl => ?_)
            refine r_iload C hl (kx := 1) rfl dX11_chance_77 ?_
            refine r_iload C hl (kx := 0) rfl dX11_chance_79 ?_
            obtain ⟨r20, μ19, e21, hf⟩ := bn_some hf
            refine r_callSv C hw (K := [(0, r14), (0, r17)]) (c_X5_commonOf l D b e21) mi_X5_commonOf st_X5_commonOf kl_11_329 rfl rfl (lvh_sz hl) (by decide) (Kr := []) rfl (Nat.le_of_ble_eq_true rfl) dX11_chance_81 (fun H locs hw => ?_)
            refine r_istore C hl (by decide) (L' := [(6, 0, r20), (5, 0, r17), (4, 0, r14), (0, 2, x0), (1, 0, x1), (2, 0, x2), (3, 0, x3)]) rfl dX11_chance_84 (fun ls hl => ?_)
            refine r_iload C hl (kx := 0) rfl dX11_chance_86 ?_
            refine r_iconst C dX11_chance_88 ?_
            refine r_icmp_ge C (tgt := 94) (by decide) dX11_chance_89 (fun c22 => ?_) (fun c22 => ?_)
            · have hf := ite_t c22 hf
              refine r_iload_n C hl (kx := 6) rfl rfl dX11_chance_94 ?_
              refine r_if_ne C (tgt := 106) (by decide) dX11_chance_95 (fun c23 => ?_) (fun c23 => ?_)
              · have hf := ite_f c23 hf
                refine r_iload C hl (kx := 1) rfl dX11_chance_106 ?_
                refine r_iload C hl (kx := 0) rfl dX11_chance_108 ?_
                obtain ⟨g24, hf⟩ := gd_some hf
                refine r_idiv C g24 dX11_chance_110 ?_
                exact r_iret C hw hf dX11_chance_111
              · have hf := ite_t c23 hf
                refine r_iload C hl (kx := 2) rfl dX11_chance_98 ?_
                refine r_iload C hl (kx := 0) rfl dX11_chance_100 ?_
                obtain ⟨g25, hf⟩ := gd_some hf
                refine r_idiv C g25 dX11_chance_102 ?_
                refine r_goto C (tgt := 111) (by decide) dX11_chance_103 ?_
                exact r_iret C hw hf dX11_chance_111
            · have hf := ite_f c22 hf
              refine r_iconst C dX11_chance_92 ?_
              exact r_iret C hw hf dX11_chance_93
          · have hf := ite_f c9 hf
            refine r_bipush C (by decide) dX11_chance_36 ?_
            exact r_iret C hw hf dX11_chance_38
      · have hf := ite_f c7 hf
        refine r_bipush C (by decide) dX11_chance_23 ?_
        exact r_iret C hw hf dX11_chance_25
theorem c_X11_chance (l : Launch) (D : Ds) (b : Nat) {x0 x1 x2 x3 : Int} {μ μ' : Mem} {r : Int} (t0 : isK x0 11) (hf : f_X11_chance x0 x1 x2 x3 μ = some (r, μ')) : Ctr l D b yX11_chance cX11_chance 7 (some .int) 5 [(2, x0), (0, x1), (0, x2), (0, x3)] μ (some (.int (jI r))) μ' := by
  refine Ctr.of (by decide +kernel) (Nat.le_of_ble_eq_true rfl) ?_
  intro p e s m below meth c C hw ls hl
  exact w_X11_chance_0 C hf t0 hw hl
set_option maxHeartbeats 4000000 in
set_option maxRecDepth 20000 in
theorem w_X11_bestBy_0 (C : Cx p s m args meth c D b cX11_bestBy 3 RX11 (some .int)) {r : Int} {μ' : Mem} {x0 x1 x2 : Int} {μ : Mem} {H : Heap} {locs : List Loc} {ls : Array Slot} (hf : f_X11_bestBy x0 x1 x2 μ = some (r, μ')) (t0 : isK x0 11) (hw : Hw D b μ s.heap H locs) (hl : lvh b ls 3 [(0, 2, x0), (1, 0, x1), (2, 0, x2)]) : W p l e (rm 6) s m args below meth c H locs 0 0 (QM below args s D b (some (.int (jI r))) μ') (F0 m 0 ls []) := by
  unfold f_X11_bestBy at hf
  refine r_aload_n C hl (kx := 0) rfl rfl dX11_bestBy_0 ?_
  refine gf_11_36 C hw t0 dX11_bestBy_1 ?_
  refine gf_11_120 C hw (ow_11_6 t0) dX11_bestBy_4 ?_
  refine r_iload_n C hl (kx := 1) rfl rfl dX11_bestBy_7 ?_
  obtain ⟨g1, hf⟩ := gd_some hf
  obtain ⟨r3, μ2, e4, hf⟩ := bn_some hf
  refine r_callVv C hw (K := [(0, x1)]) ok3 g1 (c_X3_hasPlace l D b g1 e4) mi_X3_hasPlace in_X3_hasPlace se_X3_hasPlace kl_11_230 rfl rfl (lvh_sz hl) (by decide) (Kr := []) rfl (Nat.le_of_ble_eq_true rfl) dX11_bestBy_8 (fun H locs hw => ?_)
  refine r_if_ne C (tgt := 17) (by decide) dX11_bestBy_11 (fun c5 => ?_) (fun c5 => ?_)
  · have hf := ite_f c5 hf
    refine r_iload_n C hl (kx := 2) rfl rfl dX11_bestBy_17 ?_
    refine r_if_lt C (tgt := 27) (by decide) dX11_bestBy_18 (fun c6 => ?_) (fun c6 => ?_)
    · have hf := ite_t c6 hf
      refine r_bipush C (by decide) dX11_bestBy_27 ?_
      exact r_iret C hw hf dX11_bestBy_29
    · have hf := ite_f c6 hf
      refine r_iload_n C hl (kx := 2) rfl rfl dX11_bestBy_21 ?_
      refine r_bipush C (by decide) dX11_bestBy_22 ?_
      refine r_icmp_le C (tgt := 30) (by decide) dX11_bestBy_24 (fun c7 => ?_) (fun c7 => ?_)
      · have hf := ite_t c7 hf
        refine r_aload_n C hl (kx := 0) rfl rfl dX11_bestBy_30 ?_
        refine gf_11_36 C hw t0 dX11_bestBy_31 ?_
        refine gf_11_165 C hw (ow_11_6 t0) dX11_bestBy_34 ?_
        refine r_iload_n C hl (kx := 1) rfl rfl dX11_bestBy_37 ?_
        refine r_icmp_ne C (tgt := 43) (by decide) dX11_bestBy_38 (fun c8 => ?_) (fun c8 => ?_)
        · have hf := ite_f c8 hf
          refine r_aload_n C hl (kx := 0) rfl rfl dX11_bestBy_43 ?_
          refine gf_11_85 C hw t0 dX11_bestBy_44 ?_
          refine r_aload_n C hl (kx := 0) rfl rfl dX11_bestBy_47 ?_
          refine gf_11_36 C hw t0 dX11_bestBy_48 ?_
          refine r_iload_n C hl (kx := 1) rfl rfl dX11_bestBy_51 ?_
          refine r_iload_n C hl (kx := 2) rfl rfl dX11_bestBy_52 ?_
          obtain ⟨r10, μ9, e11, hf⟩ := bn_some hf
          refine r_callVv C hw (K := [(2, (x0 + 58)), (0, x1), (0, x2)]) ok5 (ow_11_15 t0) (c_X5_firstLikeliest l D b (ow_11_15 t0) e11) mi_X5_firstLikeliest in_X5_firstLikeliest se_X5_firstLikeliest kl_11_332 rfl rfl (lvh_sz hl) (by decide) (Kr := []) rfl (Nat.le_of_ble_eq_true rfl) dX11_bestBy_53 (fun H locs hw => ?_)
          exact r_iret C hw hf dX11_bestBy_56
        · have hf := ite_t c8 hf
          refine r_iconst C dX11_bestBy_41 ?_
          exact r_iret C hw hf dX11_bestBy_42
      · have hf := ite_f c7 hf
        refine r_bipush C (by decide) dX11_bestBy_27 ?_
        exact r_iret C hw hf dX11_bestBy_29
  · have hf := ite_t c5 hf
    refine r_bipush C (by decide) dX11_bestBy_14 ?_
    exact r_iret C hw hf dX11_bestBy_16
theorem c_X11_bestBy (l : Launch) (D : Ds) (b : Nat) {x0 x1 x2 : Int} {μ μ' : Mem} {r : Int} (t0 : isK x0 11) (hf : f_X11_bestBy x0 x1 x2 μ = some (r, μ')) : Ctr l D b yX11_bestBy cX11_bestBy 3 (some .int) 6 [(2, x0), (0, x1), (0, x2)] μ (some (.int (jI r))) μ' := by
  refine Ctr.of (by decide +kernel) (Nat.le_of_ble_eq_true rfl) ?_
  intro p e s m below meth c C hw ls hl
  exact w_X11_bestBy_0 C hf t0 hw hl
set_option maxHeartbeats 4000000 in
set_option maxRecDepth 20000 in
theorem w_X11_numbers_0 (C : Cx p s m args meth c D b cX11_numbers 5 RX11 (some .int)) {r : Int} {μ' : Mem} {x0 x1 x2 x3 : Int} {μ : Mem} {H : Heap} {locs : List Loc} {ls : Array Slot} (hf : f_X11_numbers x0 x1 x2 x3 μ = some (r, μ')) (t0 : isK x0 11) (hw : Hw D b μ s.heap H locs) (hl : lvh b ls 5 [(0, 2, x0), (1, 0, x1), (2, 0, x2), (3, 0, x3)]) : W p l e (rm 2) s m args below meth c H locs 0 0 (QM below args s D b (some (.int (jI r))) μ') (F0 m 0 ls []) := by
  unfold f_X11_numbers at hf
  refine r_aload_n C hl (kx := 0) rfl rfl dX11_numbers_0 ?_
  refine r_iload_n C hl (kx := 1) rfl rfl dX11_numbers_1 ?_
  obtain ⟨r2, μ1, e3, hf⟩ := bn_some hf
  refine r_callVv C hw (K := [(0, x1)]) ok11 t0 (c_X11_trayOf l D b t0 e3) mi_X11_trayOf in_X11_trayOf se_X11_trayOf kl_11_199 rfl rfl (lvh_sz hl) (by decide) (Kr := []) rfl (Nat.le_of_ble_eq_true rfl) dX11_numbers_2 (fun H locs hw => ?_)
  refine r_astore C hl (by decide) (L' := [(4, 2, r2), (0, 2, x0), (1, 0, x1), (2, 0, x2), (3, 0, x3)]) rfl dX11_numbers_5 (fun ls hl => ?_)
  refine r_aload C hl (kx := 0) rfl dX11_numbers_7 ?_
  refine r_ifnull C (tgt := 21) (by decide) dX11_numbers_9 (fun c4 => ?_) (fun c4 => ?_)
  · have hf := ite_t c4 hf
    refine r_bipush C (by decide) dX11_numbers_21 ?_
    exact r_iret C hw hf dX11_numbers_23
  · have hf := ite_f c4 hf
    refine r_iload_n C hl (kx := 3) rfl rfl dX11_numbers_12 ?_
    refine r_if_lt C (tgt := 21) (by decide) dX11_numbers_13 (fun c5 => ?_) (fun c5 => ?_)
    · have hf := ite_t c5 hf
      refine r_bipush C (by decide) dX11_numbers_21 ?_
      exact r_iret C hw hf dX11_numbers_23
    · have hf := ite_f c5 hf
      refine r_iload_n C hl (kx := 3) rfl rfl dX11_numbers_16 ?_
      refine r_iconst C dX11_numbers_17 ?_
      refine r_icmp_le C (tgt := 24) (by decide) dX11_numbers_18 (fun c6 => ?_) (fun c6 => ?_)
      · have hf := ite_t c6 hf
        refine r_iload_n C hl (kx := 4) rfl rfl dX11_numbers_24 ?_
        refine r_if_lt C (tgt := 34) (by decide) dX11_numbers_25 (fun c7 => ?_) (fun c7 => ?_)
        · have hf := ite_t c7 hf
          refine r_bipush C (by decide) dX11_numbers_34 ?_
          exact r_iret C hw hf dX11_numbers_36
        · have hf := ite_f c7 hf
          refine r_iload_n C hl (kx := 4) rfl rfl dX11_numbers_28 ?_
          refine r_bipush C (by decide) dX11_numbers_29 ?_
          refine r_icmp_le C (tgt := 37) (by decide) dX11_numbers_31 (fun c8 => ?_) (fun c8 => ?_)
          · have hf := ite_t c8 hf
            refine r_aload C hl (kx := 0) rfl dX11_numbers_37 ?_
            refine r_iload_n C hl (kx := 3) rfl rfl dX11_numbers_39 ?_
            refine r_iload_n C hl (kx := 4) rfl rfl dX11_numbers_40 ?_
            obtain ⟨g9, hf⟩ := gd_some hf
            obtain ⟨r11, μ10, e12, hf⟩ := bn_some hf
            refine r_callVn C hw (K := [(0, x2), (0, x3)]) ok10 g9 (c_X10_makeNew l D b g9 e12) mi_X10_makeNew in_X10_makeNew se_X10_makeNew kl_11_336 rfl rfl (lvh_sz hl) (by decide) (Kr := []) rfl (Nat.le_of_ble_eq_true rfl) dX11_numbers_41 (fun H locs hw => ?_)
            refine r_iconst C dX11_numbers_44 ?_
            exact r_iret C hw hf dX11_numbers_45
          · have hf := ite_f c8 hf
            refine r_bipush C (by decide) dX11_numbers_34 ?_
            exact r_iret C hw hf dX11_numbers_36
      · have hf := ite_f c6 hf
        refine r_bipush C (by decide) dX11_numbers_21 ?_
        exact r_iret C hw hf dX11_numbers_23
theorem c_X11_numbers (l : Launch) (D : Ds) (b : Nat) {x0 x1 x2 x3 : Int} {μ μ' : Mem} {r : Int} (t0 : isK x0 11) (hf : f_X11_numbers x0 x1 x2 x3 μ = some (r, μ')) : Ctr l D b yX11_numbers cX11_numbers 5 (some .int) 2 [(2, x0), (0, x1), (0, x2), (0, x3)] μ (some (.int (jI r))) μ' := by
  refine Ctr.of (by decide +kernel) (Nat.le_of_ble_eq_true rfl) ?_
  intro p e s m below meth c C hw ls hl
  exact w_X11_numbers_0 C hf t0 hw hl
set_option maxHeartbeats 4000000 in
set_option maxRecDepth 20000 in
theorem w_X11_write_0 (C : Cx p s m args meth c D b cX11_write 6 RX11 (some .long)) {r : Int} {μ' : Mem} {x0 x1 x2 x3 : Int} {μ : Mem} {H : Heap} {locs : List Loc} {ls : Array Slot} (hf : f_X11_write x0 x1 x2 x3 μ = some (r, μ')) (t0 : isK x0 11) (hw : Hw D b μ s.heap H locs) (hl : lvh b ls 6 [(0, 2, x0), (1, 0, x1), (2, 0, x2), (3, 1, x3)]) : W p l e (rm 2) s m args below meth c H locs 0 0 (QM below args s D b (some (.long (jL r))) μ') (F0 m 0 ls []) := by
  unfold f_X11_write at hf
  refine r_aload_n C hl (kx := 0) rfl rfl dX11_write_0 ?_
  refine r_iload_n C hl (kx := 1) rfl rfl dX11_write_1 ?_
  obtain ⟨r2, μ1, e3, hf⟩ := bn_some hf
  refine r_callVv C hw (K := [(0, x1)]) ok11 t0 (c_X11_trayOf l D b t0 e3) mi_X11_trayOf in_X11_trayOf se_X11_trayOf kl_11_199 rfl rfl (lvh_sz hl) (by decide) (Kr := []) rfl (Nat.le_of_ble_eq_true rfl) dX11_write_2 (fun H locs hw => ?_)
  refine r_astore C hl (by decide) (L' := [(5, 2, r2), (0, 2, x0), (1, 0, x1), (2, 0, x2), (3, 1, x3)]) rfl dX11_write_5 (fun ls hl => ?_)
  refine r_aload C hl (kx := 0) rfl dX11_write_7 ?_
  refine r_ifnonnull C (tgt := 16) (by decide) dX11_write_9 (fun c4 => ?_) (fun c4 => ?_)
  · have hf := ite_f c4 hf
    refine r_aload C hl (kx := 0) rfl dX11_write_16 ?_
    obtain ⟨g5, hf⟩ := gd_some hf
    refine gf_11_203 C hw g5 dX11_write_18 ?_
    refine r_if_eq C (tgt := 28) (by decide) dX11_write_21 (fun c6 => ?_) (fun c6 => ?_)
    · have hf := ite_t c6 hf
      refine r_iload_n C hl (kx := 3) rfl rfl dX11_write_28 ?_
      refine r_if_lt C (tgt := 41) (by decide) dX11_write_29 (fun c7 => ?_) (fun c7 => ?_)
      · have hf := ite_t c7 hf
        refine r_ldc2 C (z := (-7)) (by decide) kw1316 dX11_write_41 ?_
        exact r_lret C hw hf dX11_write_44
      · have hf := ite_f c7 hf
        refine r_iload_n C hl (kx := 3) rfl rfl dX11_write_32 ?_
        refine r_aload C hl (kx := 0) rfl dX11_write_33 ?_
        refine gf_11_207 C hw g5 dX11_write_35 ?_
        refine r_icmp_lt C (tgt := 45) (by decide) dX11_write_38 (fun c8 => ?_) (fun c8 => ?_)
        · have hf := ite_t c8 hf
          refine r_aload C hl (kx := 0) rfl dX11_write_45 ?_
          refine r_iload_n C hl (kx := 3) rfl rfl dX11_write_47 ?_
          refine r_lload_n C hl (kx := 4) rfl rfl dX11_write_48 ?_
          obtain ⟨r10, μ9, e11, hf⟩ := bn_some hf
          refine r_callVn C hw (K := [(0, x2), (1, x3)]) ok10 g5 (c_X10_put l D b g5 e11) mi_X10_put in_X10_put se_X10_put kl_11_346 rfl rfl (lvh_sz hl) (by decide) (Kr := []) rfl (Nat.le_of_ble_eq_true rfl) dX11_write_49 (fun H locs hw => ?_)
          refine r_aload C hl (kx := 0) rfl dX11_write_52 ?_
          refine r_iload_n C hl (kx := 3) rfl rfl dX11_write_54 ?_
          obtain ⟨r13, μ12, e14, hf⟩ := bn_some hf
          refine r_callVv C hw (K := [(0, x2)]) ok10 g5 (c_X10_numberAt l D b g5 e14) mi_X10_numberAt in_X10_numberAt se_X10_numberAt kl_11_210 rfl rfl (lvh_sz hl) (by decide) (Kr := []) rfl (Nat.le_of_ble_eq_true rfl) dX11_write_55 (fun H locs hw => ?_)
          exact r_lret C hw hf dX11_write_58
        · have hf := ite_f c8 hf
          refine r_ldc2 C (z := (-7)) (by decide) kw1316 dX11_write_41 ?_
          exact r_lret C hw hf dX11_write_44
    · have hf := ite_f c6 hf
      refine r_ldc2 C (z := (-6)) (by decide) kw1315 dX11_write_24 ?_
      exact r_lret C hw hf dX11_write_27
  · have hf := ite_t c4 hf
    refine r_ldc2 C (z := (-2)) (by decide) kw1314 dX11_write_12 ?_
    exact r_lret C hw hf dX11_write_15
theorem c_X11_write (l : Launch) (D : Ds) (b : Nat) {x0 x1 x2 x3 : Int} {μ μ' : Mem} {r : Int} (t0 : isK x0 11) (hf : f_X11_write x0 x1 x2 x3 μ = some (r, μ')) : Ctr l D b yX11_write cX11_write 6 (some .long) 2 [(2, x0), (0, x1), (0, x2), (1, x3)] μ (some (.long (jL r))) μ' := by
  refine Ctr.of (by decide +kernel) (Nat.le_of_ble_eq_true rfl) ?_
  intro p e s m below meth c C hw ls hl
  exact w_X11_write_0 C hf t0 hw hl
set_option maxHeartbeats 4000000 in
set_option maxRecDepth 20000 in
theorem w_X11_lists_91 (C : Cx p s m args meth c D b cX11_lists 7 RX11 (some .int)) {r : Int} {μ' : Mem} : ∀ (n : Nat) (x0 x3 x5 x6 : Int) (μ : Mem) (H : Heap) (locs : List Loc) (ls : Array Slot), f_X11_lists_w91 n x0 x3 x5 x6 μ = some (r, μ') → isK x0 11 → Hw D b μ s.heap H locs → lvh b ls 7 [(0, 2, x0), (3, 2, x3), (5, 0, x5), (6, 0, x6)] → W p l e (rm 6) s m args below meth c H locs 0 0 (QM below args s D b (some (.int (jI r))) μ') (F0 m 91 ls []) := by
  intro n
  induction n with
  | zero => intro x0 x3 x5 x6 μ H locs ls hf; cases hf
  | succ n ih =>
    intro x0 x3 x5 x6 μ H locs ls hf t0 hw hl
    rw [f_X11_lists_w91.eq_2] at hf
    refine r_iload C hl (kx := 3) rfl dX11_lists_91 ?_
    refine r_iload C hl (kx := 2) rfl dX11_lists_93 ?_
    refine r_icmp_ge C (tgt := 134) (by decide) dX11_lists_95 (fun c1 => ?_) (fun c1 => ?_)
    · have hf := ite_t c1 hf
      refine r_iload C hl (kx := 2) rfl dX11_lists_134 ?_
      exact r_iret C hw hf dX11_lists_136
    · have hf := ite_f c1 hf
      refine r_aload_n C hl (kx := 1) rfl rfl dX11_lists_98 ?_
      refine r_iload C hl (kx := 3) rfl dX11_lists_99 ?_
      refine r_aload_n C hl (kx := 0) rfl rfl dX11_lists_101 ?_
      refine gf_11_64 C hw t0 dX11_lists_102 ?_
      refine r_aload_n C hl (kx := 0) rfl rfl dX11_lists_105 ?_
      refine gf_11_36 C hw t0 dX11_lists_106 ?_
      refine gf_11_120 C hw (ow_11_6 t0) dX11_lists_109 ?_
      refine r_aload_n C hl (kx := 0) rfl rfl dX11_lists_112 ?_
      refine gf_11_36 C hw t0 dX11_lists_113 ?_
      refine gf_11_165 C hw (ow_11_6 t0) dX11_lists_116 ?_
      refine r_iload C hl (kx := 3) rfl dX11_lists_119 ?_
      obtain ⟨r3, μ2, e4, hf⟩ := bn_some hf
      refine r_callVv C hw (K := [(2, (μ (x0 + 58) 0)), (0, (μ (x0 + 58) 1)), (0, x6)]) ok6 (ow_11_12 t0) (c_X6_laneOnWay l D b (ow_11_12 t0) e4) mi_X6_laneOnWay in_X6_laneOnWay se_X6_laneOnWay kl_11_244 rfl rfl (lvh_sz hl) (by decide) (Kr := [(0, x6), (2, x3)]) rfl (Nat.le_of_ble_eq_true rfl) dX11_lists_121 (fun H locs hw => ?_)
      refine r_i2l C dX11_lists_124 ?_
      obtain ⟨g5, hf⟩ := gd_some hf
      obtain ⟨r7, μ6, e8, hf⟩ := bn_some hf
      refine r_callVn C hw (K := [(0, x6), (1, (nrm r3))]) ok10 g5 (c_X10_put l D b g5 e8) mi_X10_put in_X10_put se_X10_put kl_11_346 rfl rfl (lvh_sz hl) (by decide) (Kr := []) rfl (Nat.le_of_ble_eq_true rfl) dX11_lists_125 (fun H locs hw => ?_)
      refine r_iinc C hl (kx := 3) rfl (by decide) (L' := [(6, 0, (x6 + 1)), (0, 2, x0), (3, 2, x3), (5, 0, x5)]) rfl dX11_lists_128 (fun ls hl => ?_)
      refine r_goto C (tgt := 91) (by decide) dX11_lists_131 ?_
      exact ih _ _ _ _ _ _ _ _ hf t0 hw (lvh_sub hl [1, 2, 3, 0] rfl)
set_option maxHeartbeats 4000000 in
set_option maxRecDepth 20000 in
theorem w_X11_lists_0 (C : Cx p s m args meth c D b cX11_lists 7 RX11 (some .int)) {r : Int} {μ' : Mem} {x0 x1 x2 : Int} {μ : Mem} {H : Heap} {locs : List Loc} {ls : Array Slot} (hf : f_X11_lists x0 x1 x2 μ = some (r, μ')) (t0 : isK x0 11) (hw : Hw D b μ s.heap H locs) (hl : lvh b ls 7 [(0, 2, x0), (1, 0, x1), (2, 0, x2)]) : W p l e (rm 6) s m args below meth c H locs 0 0 (QM below args s D b (some (.int (jI r))) μ') (F0 m 0 ls []) := by
  unfold f_X11_lists at hf
  refine r_aload_n C hl (kx := 0) rfl rfl dX11_lists_0 ?_
  refine r_iload_n C hl (kx := 1) rfl rfl dX11_lists_1 ?_
  obtain ⟨r2, μ1, e3, hf⟩ := bn_some hf
  refine r_callVv C hw (K := [(0, x1)]) ok11 t0 (c_X11_trayOf l D b t0 e3) mi_X11_trayOf in_X11_trayOf se_X11_trayOf kl_11_199 rfl rfl (lvh_sz hl) (by decide) (Kr := []) rfl (Nat.le_of_ble_eq_true rfl) dX11_lists_2 (fun H locs hw => ?_)
  refine r_astore_n C hl (by decide) (L' := [(3, 2, r2), (0, 2, x0), (1, 0, x1), (2, 0, x2)]) rfl rfl dX11_lists_5 (fun ls hl => ?_)
  refine r_aload_n C hl (kx := 0) rfl rfl dX11_lists_6 ?_
  refine r_ifnull C (tgt := 24) (by decide) dX11_lists_7 (fun c4 => ?_) (fun c4 => ?_)
  · have hf := ite_t c4 hf
    refine r_bipush C (by decide) dX11_lists_24 ?_
    exact r_iret C hw hf dX11_lists_26
  · have hf := ite_f c4 hf
    refine r_aload_n C hl (kx := 1) rfl rfl dX11_lists_10 ?_
    refine gf_11_36 C hw t0 dX11_lists_11 ?_
    refine gf_11_120 C hw (ow_11_6 t0) dX11_lists_14 ?_
    refine r_iload_n C hl (kx := 3) rfl rfl dX11_lists_17 ?_
    obtain ⟨g5, hf⟩ := gd_some hf
    obtain ⟨r7, μ6, e8, hf⟩ := bn_some hf
    refine r_callVv C hw (K := [(0, x2)]) ok3 g5 (c_X3_hasPlace l D b g5 e8) mi_X3_hasPlace in_X3_hasPlace se_X3_hasPlace kl_11_230 rfl rfl (lvh_sz hl) (by decide) (Kr := []) rfl (Nat.le_of_ble_eq_true rfl) dX11_lists_18 (fun H locs hw => ?_)
    refine r_if_ne C (tgt := 27) (by decide) dX11_lists_21 (fun c9 => ?_) (fun c9 => ?_)
    · have hf := ite_f c9 hf
      refine r_aload_n C hl (kx := 0) rfl rfl dX11_lists_27 ?_
      obtain ⟨g10, hf⟩ := gd_some hf
      refine gf_11_203 C hw g10 dX11_lists_28 ?_
      refine r_if_eq C (tgt := 37) (by decide) dX11_lists_31 (fun c11 => ?_) (fun c11 => ?_)
      · have hf := ite_t c11 hf
        refine r_aload_n C hl (kx := 1) rfl rfl dX11_lists_37 ?_
        refine gf_11_64 C hw t0 dX11_lists_38 ?_
        refine r_aload_n C hl (kx := 1) rfl rfl dX11_lists_41 ?_
        refine gf_11_36 C hw t0 dX11_lists_42 ?_
        refine r_iload_n C hl (kx := 3) rfl rfl dX11_lists_45 ?_
        obtain ⟨r13, μ12, e14, hf⟩ := bn_some hf
        refine r_callVn C hw (K := [(2, (x0 + 58)), (0, x2)]) ok6 (ow_11_12 t0) (c_X6_measureFillings l D b (ow_11_12 t0) e14) mi_X6_measureFillings in_X6_measureFillings se_X6_measureFillings kl_11_252 rfl rfl (lvh_sz hl) (by decide) (Kr := []) rfl (Nat.le_of_ble_eq_true rfl) dX11_lists_46 (fun H locs hw => ?_)
        refine r_aload_n C hl (kx := 1) rfl rfl dX11_lists_49 ?_
        refine gf_11_64 C hw t0 dX11_lists_50 ?_
        refine r_aload_n C hl (kx := 1) rfl rfl dX11_lists_53 ?_
        refine gf_11_36 C hw t0 dX11_lists_54 ?_
        refine gf_11_165 C hw (ow_11_6 t0) dX11_lists_57 ?_
        obtain ⟨r16, μ15, e17, hf⟩ := bn_some hf
        refine r_callVv C hw (K := [(0, (μ12 (x0 + 58) 1))]) ok6 (ow_11_12 t0) (c_X6_farFrom l D b (ow_11_12 t0) e17) mi_X6_farFrom in_X6_farFrom se_X6_farFrom kl_11_237 rfl rfl (lvh_sz hl) (by decide) (Kr := []) rfl (Nat.le_of_ble_eq_true rfl) dX11_lists_60 (fun H locs hw => ?_)
        refine r_istore C hl (by decide) (L' := [(4, 0, r16), (3, 2, r2), (0, 2, x0), (1, 0, x1), (2, 0, x2)]) rfl dX11_lists_63 (fun ls hl => ?_)
        refine r_iload C hl (kx := 0) rfl dX11_lists_65 ?_
        refine r_iconst C dX11_lists_67 ?_
        refine r_icmp_ne C (tgt := 74) (by decide) dX11_lists_68 (fun c18 => ?_) (fun c18 => ?_)
        · have hf := ite_f c18 hf
          refine r_iload C hl (kx := 0) rfl dX11_lists_74 ?_
          obtain ⟨r20, μ19, e21, hf⟩ := bn_some hf
          refine r_callSv C hw (K := [(0, r16)]) (c_X6_lanesIn l D b e21) mi_X6_lanesIn st_X6_lanesIn kl_11_258 rfl rfl (lvh_sz hl) (by decide) (Kr := []) rfl (Nat.le_of_ble_eq_true rfl) dX11_lists_76 (fun H locs hw => ?_)
          refine r_aload_n C hl (kx := 1) rfl rfl dX11_lists_79 ?_
          refine gf_11_207 C hw g10 dX11_lists_80 ?_
          obtain ⟨r23, μ22, e24, hf⟩ := bn_some hf
          refine r_callSv C hw (K := [(0, r20), (0, (μ19 r2 1))]) (c_J9_min_7cf53 l D b e24) mi_J9_min_7cf53 st_J9_min_7cf53 kl_11_350 rfl rfl (lvh_sz hl) (by decide) (Kr := []) rfl (Nat.le_of_ble_eq_true rfl) dX11_lists_83 (fun H locs hw => ?_)
          refine r_istore C hl (by decide) (L' := [(5, 0, r23), (4, 0, r16), (3, 2, r2), (0, 2, x0), (1, 0, x1), (2, 0, x2)]) rfl dX11_lists_86 (fun ls hl => ?_)
          refine r_iconst C dX11_lists_88 ?_
          refine r_istore C hl (by decide) (L' := [(6, 0, 0), (5, 0, r23), (4, 0, r16), (3, 2, r2), (0, 2, x0), (1, 0, x1), (2, 0, x2)]) rfl dX11_lists_89 (fun ls hl => ?_)
          exact w_X11_lists_91 C FU _ _ _ _ _ _ _ _ hf t0 hw (lvh_sub hl [4, 3, 1, 0] rfl)
        · have hf := ite_t c18 hf
          refine r_bipush C (by decide) dX11_lists_71 ?_
          exact r_iret C hw hf dX11_lists_73
      · have hf := ite_f c11 hf
        refine r_bipush C (by decide) dX11_lists_34 ?_
        exact r_iret C hw hf dX11_lists_36
    · have hf := ite_t c9 hf
      refine r_bipush C (by decide) dX11_lists_24 ?_
      exact r_iret C hw hf dX11_lists_26
theorem c_X11_lists (l : Launch) (D : Ds) (b : Nat) {x0 x1 x2 : Int} {μ μ' : Mem} {r : Int} (t0 : isK x0 11) (hf : f_X11_lists x0 x1 x2 μ = some (r, μ')) : Ctr l D b yX11_lists cX11_lists 7 (some .int) 6 [(2, x0), (0, x1), (0, x2)] μ (some (.int (jI r))) μ' := by
  refine Ctr.of (by decide +kernel) (Nat.le_of_ble_eq_true rfl) ?_
  intro p e s m below meth c C hw ls hl
  exact w_X11_lists_0 C hf t0 hw hl
set_option maxHeartbeats 4000000 in
set_option maxRecDepth 20000 in
theorem w_X11_pictureOf_0 (C : Cx p s m args meth c D b cX11_pictureOf 2 RX11 (some (.object "RutWays$Course"))) {r : Int} {μ' : Mem} {x0 x1 : Int} {μ : Mem} {H : Heap} {locs : List Loc} {ls : Array Slot} (hf : f_X11_pictureOf x0 x1 μ = some (r, μ')) (t0 : isK x0 11) (hw : Hw D b μ s.heap H locs) (hl : lvh b ls 2 [(0, 2, x0), (1, 0, x1)]) : W p l e (rm 0) s m args below meth c H locs 0 0 (QM below args s D b (some (rfv b r)) μ') (F0 m 0 ls []) := by
  unfold f_X11_pictureOf at hf
  refine r_iload_n C hl (kx := 1) rfl rfl dX11_pictureOf_0 ?_
  refine r_if_lt C (tgt := 13) (by decide) dX11_pictureOf_1 (fun c1 => ?_) (fun c1 => ?_)
  · have hf := ite_t c1 hf
    refine r_null C dX11_pictureOf_13 ?_
    refine r_goto C (tgt := 23) (by decide) dX11_pictureOf_14 ?_
    exact r_aret C hw hf dX11_pictureOf_23
  · have hf := ite_f c1 hf
    refine r_iload_n C hl (kx := 1) rfl rfl dX11_pictureOf_4 ?_
    refine r_aload_n C hl (kx := 0) rfl rfl dX11_pictureOf_5 ?_
    refine gf_11_50 C hw t0 dX11_pictureOf_6 ?_
    refine r_alen6 C hw (n := 2) (ow_11_9 t0) (by decide) (z := 2) rfl dX11_pictureOf_9 ?_
    refine r_icmp_lt C (tgt := 17) (by decide) dX11_pictureOf_10 (fun c2 => ?_) (fun c2 => ?_)
    · have hf := ite_t c2 hf
      refine r_aload_n C hl (kx := 0) rfl rfl dX11_pictureOf_17 ?_
      refine gf_11_50 C hw t0 dX11_pictureOf_18 ?_
      refine r_iload_n C hl (kx := 1) rfl rfl dX11_pictureOf_21 ?_
      obtain ⟨g3, hf⟩ := gd_some hf
      refine r_aald6 C hw (n := 2) (ow_11_9 t0) (j := (nrm x1)) rfl g3 (by decide) dX11_pictureOf_22 ?_
      exact r_aret C hw hf dX11_pictureOf_23
    · have hf := ite_f c2 hf
      refine r_null C dX11_pictureOf_13 ?_
      refine r_goto C (tgt := 23) (by decide) dX11_pictureOf_14 ?_
      exact r_aret C hw hf dX11_pictureOf_23
theorem c_X11_pictureOf (l : Launch) (D : Ds) (b : Nat) {x0 x1 : Int} {μ μ' : Mem} {r : Int} (t0 : isK x0 11) (hf : f_X11_pictureOf x0 x1 μ = some (r, μ')) : Ctr l D b yX11_pictureOf cX11_pictureOf 2 (some (.object "RutWays$Course")) 0 [(2, x0), (0, x1)] μ (some (rfv b r)) μ' := by
  refine Ctr.of (by decide +kernel) (Nat.le_of_ble_eq_true rfl) ?_
  intro p e s m below meth c C hw ls hl
  exact w_X11_pictureOf_0 C hf t0 hw hl
set_option maxHeartbeats 4000000 in
set_option maxRecDepth 20000 in
theorem w_X11_image_0 (C : Cx p s m args meth c D b cX11_image 3 RX11 (some .int)) {r : Int} {μ' : Mem} {x0 x1 : Int} {μ : Mem} {H : Heap} {locs : List Loc} {ls : Array Slot} (hf : f_X11_image x0 x1 μ = some (r, μ')) (t0 : isK x0 11) (hw : Hw D b μ s.heap H locs) (hl : lvh b ls 3 [(0, 2, x0), (1, 0, x1)]) : W p l e (rm 2) s m args below meth c H locs 0 0 (QM below args s D b (some (.int (jI r))) μ') (F0 m 0 ls []) := by
  unfold f_X11_image at hf
  refine r_aload_n C hl (kx := 0) rfl rfl dX11_image_0 ?_
  refine r_iload_n C hl (kx := 1) rfl rfl dX11_image_1 ?_
  obtain ⟨r2, μ1, e3, hf⟩ := bn_some hf
  refine r_callVv C hw (K := [(0, x1)]) ok11 t0 (c_X11_pictureOf l D b t0 e3) mi_X11_pictureOf in_X11_pictureOf se_X11_pictureOf kl_11_353 rfl rfl (lvh_sz hl) (by decide) (Kr := []) rfl (Nat.le_of_ble_eq_true rfl) dX11_image_2 (fun H locs hw => ?_)
  refine r_astore_n C hl (by decide) (L' := [(2, 2, r2), (0, 2, x0), (1, 0, x1)]) rfl rfl dX11_image_5 (fun ls hl => ?_)
  refine r_aload_n C hl (kx := 0) rfl rfl dX11_image_6 ?_
  refine r_ifnonnull C (tgt := 13) (by decide) dX11_image_7 (fun c4 => ?_) (fun c4 => ?_)
  · have hf := ite_f c4 hf
    refine r_aload_n C hl (kx := 0) rfl rfl dX11_image_13 ?_
    refine r_aload_n C hl (kx := 1) rfl rfl dX11_image_14 ?_
    refine gf_11_36 C hw t0 dX11_image_15 ?_
    obtain ⟨g5, hf⟩ := gd_some hf
    obtain ⟨r7, μ6, e8, hf⟩ := bn_some hf
    refine r_callVn C hw (K := [(2, (x0 + 58))]) ok0 g5 (c_X0_takeOver l D b g5 e8) mi_X0_takeOver in_X0_takeOver se_X0_takeOver kl_11_189 rfl rfl (lvh_sz hl) (by decide) (Kr := []) rfl (Nat.le_of_ble_eq_true rfl) dX11_image_18 (fun H locs hw => ?_)
    refine r_aload_n C hl (kx := 1) rfl rfl dX11_image_21 ?_
    refine r_dup C (rfv_cat _ _) dX11_image_22 ?_
    refine gf_11_357 C hw t0 dX11_image_23 ?_
    refine r_iconst C dX11_image_26 ?_
    refine r_iload_n C hl (kx := 2) rfl rfl dX11_image_27 ?_
    refine r_ishl C dX11_image_28 ?_
    refine r_ior C dX11_image_29 ?_
    obtain ⟨μ9, e10, hf⟩ := nm_some hf
    refine pf_11_357 C hw t0 dX11_image_30 (fun H locs hw => ?_)
    rw [← e10] at hw
    refine r_iconst C dX11_image_33 ?_
    exact r_iret C hw hf dX11_image_34
  · have hf := ite_t c4 hf
    refine r_bipush C (by decide) dX11_image_10 ?_
    exact r_iret C hw hf dX11_image_12
theorem c_X11_image (l : Launch) (D : Ds) (b : Nat) {x0 x1 : Int} {μ μ' : Mem} {r : Int} (t0 : isK x0 11) (hf : f_X11_image x0 x1 μ = some (r, μ')) : Ctr l D b yX11_image cX11_image 3 (some .int) 2 [(2, x0), (0, x1)] μ (some (.int (jI r))) μ' := by
  refine Ctr.of (by decide +kernel) (Nat.le_of_ble_eq_true rfl) ?_
  intro p e s m below meth c C hw ls hl
  exact w_X11_image_0 C hf t0 hw hl
set_option maxHeartbeats 4000000 in
set_option maxRecDepth 20000 in
theorem w_X11_restore_0 (C : Cx p s m args meth c D b cX11_restore 3 RX11 (some .int)) {r : Int} {μ' : Mem} {x0 x1 : Int} {μ : Mem} {H : Heap} {locs : List Loc} {ls : Array Slot} (hf : f_X11_restore x0 x1 μ = some (r, μ')) (t0 : isK x0 11) (hw : Hw D b μ s.heap H locs) (hl : lvh b ls 3 [(0, 2, x0), (1, 0, x1)]) : W p l e (rm 2) s m args below meth c H locs 0 0 (QM below args s D b (some (.int (jI r))) μ') (F0 m 0 ls []) := by
  unfold f_X11_restore at hf
  refine r_aload_n C hl (kx := 0) rfl rfl dX11_restore_0 ?_
  refine r_iload_n C hl (kx := 1) rfl rfl dX11_restore_1 ?_
  obtain ⟨r2, μ1, e3, hf⟩ := bn_some hf
  refine r_callVv C hw (K := [(0, x1)]) ok11 t0 (c_X11_pictureOf l D b t0 e3) mi_X11_pictureOf in_X11_pictureOf se_X11_pictureOf kl_11_353 rfl rfl (lvh_sz hl) (by decide) (Kr := []) rfl (Nat.le_of_ble_eq_true rfl) dX11_restore_2 (fun H locs hw => ?_)
  refine r_astore_n C hl (by decide) (L' := [(2, 2, r2), (0, 2, x0), (1, 0, x1)]) rfl rfl dX11_restore_5 (fun ls hl => ?_)
  refine r_aload_n C hl (kx := 0) rfl rfl dX11_restore_6 ?_
  refine r_ifnonnull C (tgt := 13) (by decide) dX11_restore_7 (fun c4 => ?_) (fun c4 => ?_)
  · have hf := ite_f c4 hf
    refine r_aload_n C hl (kx := 1) rfl rfl dX11_restore_13 ?_
    refine gf_11_357 C hw t0 dX11_restore_14 ?_
    refine r_iload_n C hl (kx := 2) rfl rfl dX11_restore_17 ?_
    refine r_ishr C dX11_restore_18 ?_
    refine r_iconst C dX11_restore_19 ?_
    refine r_iand C dX11_restore_20 ?_
    refine r_if_ne C (tgt := 27) (by decide) dX11_restore_21 (fun c5 => ?_) (fun c5 => ?_)
    · have hf := ite_f c5 hf
      refine r_aload_n C hl (kx := 1) rfl rfl dX11_restore_27 ?_
      refine gf_11_36 C hw t0 dX11_restore_28 ?_
      refine r_aload_n C hl (kx := 0) rfl rfl dX11_restore_31 ?_
      obtain ⟨r7, μ6, e8, hf⟩ := bn_some hf
      refine r_callVn C hw (K := [(2, r2)]) ok0 (ow_11_6 t0) (c_X0_takeOver l D b (ow_11_6 t0) e8) mi_X0_takeOver in_X0_takeOver se_X0_takeOver kl_11_189 rfl rfl (lvh_sz hl) (by decide) (Kr := []) rfl (Nat.le_of_ble_eq_true rfl) dX11_restore_32 (fun H locs hw => ?_)
      refine r_aload_n C hl (kx := 1) rfl rfl dX11_restore_35 ?_
      refine gf_11_46 C hw t0 dX11_restore_36 ?_
      obtain ⟨r10, μ9, e11, hf⟩ := bn_some hf
      refine r_callVn C hw (K := []) ok2 (ow_11_8 t0) (c_X2_forgetAll l D b (ow_11_8 t0) e11) mi_X2_forgetAll in_X2_forgetAll se_X2_forgetAll kl_11_114 rfl rfl (lvh_sz hl) (by decide) (Kr := []) rfl (Nat.le_of_ble_eq_true rfl) dX11_restore_39 (fun H locs hw => ?_)
      refine r_iconst C dX11_restore_42 ?_
      exact r_iret C hw hf dX11_restore_43
    · have hf := ite_t c5 hf
      refine r_bipush C (by decide) dX11_restore_24 ?_
      exact r_iret C hw hf dX11_restore_26
  · have hf := ite_t c4 hf
    refine r_bipush C (by decide) dX11_restore_10 ?_
    exact r_iret C hw hf dX11_restore_12
theorem c_X11_restore (l : Launch) (D : Ds) (b : Nat) {x0 x1 : Int} {μ μ' : Mem} {r : Int} (t0 : isK x0 11) (hf : f_X11_restore x0 x1 μ = some (r, μ')) : Ctr l D b yX11_restore cX11_restore 3 (some .int) 2 [(2, x0), (0, x1)] μ (some (.int (jI r))) μ' := by
  refine Ctr.of (by decide +kernel) (Nat.le_of_ble_eq_true rfl) ?_
  intro p e s m below meth c C hw ls hl
  exact w_X11_restore_0 C hf t0 hw hl
set_option maxHeartbeats 4000000 in
set_option maxRecDepth 20000 in
theorem w_X11_count_0 (C : Cx p s m args meth c D b cX11_count 2 RX11 (some .int)) {r : Int} {μ' : Mem} {x0 x1 : Int} {μ : Mem} {H : Heap} {locs : List Loc} {ls : Array Slot} (hf : f_X11_count x0 x1 μ = some (r, μ')) (t0 : isK x0 11) (hw : Hw D b μ s.heap H locs) (hl : lvh b ls 2 [(0, 2, x0), (1, 0, x1)]) : W p l e (rm 1) s m args below meth c H locs 0 0 (QM below args s D b (some (.int (jI r))) μ') (F0 m 0 ls []) := by
  unfold f_X11_count at hf
  refine r_iload_n C hl (kx := 1) rfl rfl dX11_count_0 ?_
  rcases Decidable.em (nrm x1 = 0) with c1 | c1
  · have hf := ite_t c1 hf
    refine r_tabIn C (tgt := 64) c1 (by decide) (by decide) rfl (by decide) dX11_count_1 ?_
    refine r_aload_n C hl (kx := 0) rfl rfl dX11_count_64 ?_
    refine gf_11_36 C hw t0 dX11_count_65 ?_
    refine gf_11_120 C hw (ow_11_6 t0) dX11_count_68 ?_
    obtain ⟨g2, hf⟩ := gd_some hf
    refine gf_11_360 C hw g2 dX11_count_71 ?_
    exact r_iret C hw hf dX11_count_74
  have hf := ite_f c1 hf
  rcases Decidable.em (nrm x1 = 1) with c3 | c3
  · have hf := ite_t c3 hf
    refine r_tabIn C (tgt := 75) c3 (by decide) (by decide) rfl (by decide) dX11_count_1 ?_
    refine r_aload_n C hl (kx := 0) rfl rfl dX11_count_75 ?_
    refine gf_11_36 C hw t0 dX11_count_76 ?_
    refine gf_11_120 C hw (ow_11_6 t0) dX11_count_79 ?_
    obtain ⟨g4, hf⟩ := gd_some hf
    refine gf_11_275 C hw g4 dX11_count_82 ?_
    exact r_iret C hw hf dX11_count_85
  have hf := ite_f c3 hf
  rcases Decidable.em (nrm x1 = 2) with c5 | c5
  · have hf := ite_t c5 hf
    refine r_tabIn C (tgt := 86) c5 (by decide) (by decide) rfl (by decide) dX11_count_1 ?_
    refine r_aload_n C hl (kx := 0) rfl rfl dX11_count_86 ?_
    refine gf_11_36 C hw t0 dX11_count_87 ?_
    refine gf_11_120 C hw (ow_11_6 t0) dX11_count_90 ?_
    obtain ⟨g6, hf⟩ := gd_some hf
    refine gf_11_287 C hw g6 dX11_count_93 ?_
    exact r_iret C hw hf dX11_count_96
  have hf := ite_f c5 hf
  rcases Decidable.em (nrm x1 = 3) with c7 | c7
  · have hf := ite_t c7 hf
    refine r_tabIn C (tgt := 97) c7 (by decide) (by decide) rfl (by decide) dX11_count_1 ?_
    refine r_aload_n C hl (kx := 0) rfl rfl dX11_count_97 ?_
    refine gf_11_36 C hw t0 dX11_count_98 ?_
    refine gf_11_165 C hw (ow_11_6 t0) dX11_count_101 ?_
    exact r_iret C hw hf dX11_count_104
  have hf := ite_f c7 hf
  rcases Decidable.em (nrm x1 = 4) with c8 | c8
  · have hf := ite_t c8 hf
    refine r_tabIn C (tgt := 105) c8 (by decide) (by decide) rfl (by decide) dX11_count_1 ?_
    refine r_aload_n C hl (kx := 0) rfl rfl dX11_count_105 ?_
    refine gf_11_36 C hw t0 dX11_count_106 ?_
    refine gf_11_120 C hw (ow_11_6 t0) dX11_count_109 ?_
    obtain ⟨g9, hf⟩ := gd_some hf
    refine gf_11_363 C hw g9 dX11_count_112 ?_
    exact r_iret C hw hf dX11_count_115
  have hf := ite_f c8 hf
  rcases Decidable.em (nrm x1 = 5) with c10 | c10
  · have hf := ite_t c10 hf
    refine r_tabIn C (tgt := 116) c10 (by decide) (by decide) rfl (by decide) dX11_count_1 ?_
    refine r_aload_n C hl (kx := 0) rfl rfl dX11_count_116 ?_
    refine gf_11_36 C hw t0 dX11_count_117 ?_
    refine gf_11_151 C hw (ow_11_6 t0) dX11_count_120 ?_
    exact r_iret C hw hf dX11_count_123
  have hf := ite_f c10 hf
  rcases Decidable.em (nrm x1 = 6) with c11 | c11
  · have hf := ite_t c11 hf
    refine r_tabIn C (tgt := 124) c11 (by decide) (by decide) rfl (by decide) dX11_count_1 ?_
    refine r_aload_n C hl (kx := 0) rfl rfl dX11_count_124 ?_
    refine gf_11_36 C hw t0 dX11_count_125 ?_
    refine gf_11_171 C hw (ow_11_6 t0) dX11_count_128 ?_
    exact r_iret C hw hf dX11_count_131
  have hf := ite_f c11 hf
  rcases Decidable.em (nrm x1 = 7) with c12 | c12
  · have hf := ite_t c12 hf
    refine r_tabIn C (tgt := 132) c12 (by decide) (by decide) rfl (by decide) dX11_count_1 ?_
    refine r_aload_n C hl (kx := 0) rfl rfl dX11_count_132 ?_
    refine gf_11_36 C hw t0 dX11_count_133 ?_
    obtain ⟨r14, μ13, e15, hf⟩ := bn_some hf
    refine r_callVv C hw (K := []) ok0 (ow_11_6 t0) (c_X0_allDepths l D b (ow_11_6 t0) e15) mi_X0_allDepths in_X0_allDepths se_X0_allDepths kl_11_214 rfl rfl (lvh_sz hl) (by decide) (Kr := []) rfl (Nat.le_of_ble_eq_true rfl) dX11_count_136 (fun H locs hw => ?_)
    exact r_iret C hw hf dX11_count_139
  have hf := ite_f c12 hf
  rcases Decidable.em (nrm x1 = 8) with c16 | c16
  · have hf := ite_t c16 hf
    refine r_tabIn C (tgt := 140) c16 (by decide) (by decide) rfl (by decide) dX11_count_1 ?_
    refine r_aload_n C hl (kx := 0) rfl rfl dX11_count_140 ?_
    refine gf_11_36 C hw t0 dX11_count_141 ?_
    refine gf_11_366 C hw (ow_11_6 t0) dX11_count_144 ?_
    exact r_iret C hw hf dX11_count_147
  have hf := ite_f c16 hf
  rcases Decidable.em (nrm x1 = 9) with c17 | c17
  · have hf := ite_t c17 hf
    refine r_tabIn C (tgt := 148) c17 (by decide) (by decide) rfl (by decide) dX11_count_1 ?_
    refine r_aload_n C hl (kx := 0) rfl rfl dX11_count_148 ?_
    refine gf_11_46 C hw t0 dX11_count_149 ?_
    obtain ⟨r19, μ18, e20, hf⟩ := bn_some hf
    refine r_callVv C hw (K := []) ok2 (ow_11_8 t0) (c_X2_kept l D b (ow_11_8 t0) e20) mi_X2_kept in_X2_kept se_X2_kept kl_11_192 rfl rfl (lvh_sz hl) (by decide) (Kr := []) rfl (Nat.le_of_ble_eq_true rfl) dX11_count_152 (fun H locs hw => ?_)
    exact r_iret C hw hf dX11_count_155
  have hf := ite_f c17 hf
  rcases Decidable.em (nrm x1 = 10) with c21 | c21
  · have hf := ite_t c21 hf
    refine r_tabIn C (tgt := 156) c21 (by decide) (by decide) rfl (by decide) dX11_count_1 ?_
    refine r_aload_n C hl (kx := 0) rfl rfl dX11_count_156 ?_
    refine gf_11_89 C hw t0 dX11_count_157 ?_
    exact r_iret C hw hf dX11_count_160
  have hf := ite_f c21 hf
  rcases Decidable.em (nrm x1 = 11) with c22 | c22
  · have hf := ite_t c22 hf
    refine r_tabIn C (tgt := 161) c22 (by decide) (by decide) rfl (by decide) dX11_count_1 ?_
    refine r_aload_n C hl (kx := 0) rfl rfl dX11_count_161 ?_
    refine gf_11_36 C hw t0 dX11_count_162 ?_
    refine gf_11_120 C hw (ow_11_6 t0) dX11_count_165 ?_
    obtain ⟨g23, hf⟩ := gd_some hf
    refine gf_11_117 C hw g23 dX11_count_168 ?_
    exact r_iret C hw hf dX11_count_171
  have hf := ite_f c22 hf
  refine r_tabOut C (tgt := 172) (by omega) (by decide) dX11_count_1 ?_
  refine r_iconst C dX11_count_172 ?_
  exact r_iret C hw hf dX11_count_173
theorem c_X11_count (l : Launch) (D : Ds) (b : Nat) {x0 x1 : Int} {μ μ' : Mem} {r : Int} (t0 : isK x0 11) (hf : f_X11_count x0 x1 μ = some (r, μ')) : Ctr l D b yX11_count cX11_count 2 (some .int) 1 [(2, x0), (0, x1)] μ (some (.int (jI r))) μ' := by
  refine Ctr.of (by decide +kernel) (Nat.le_of_ble_eq_true rfl) ?_
  intro p e s m below meth c C hw ls hl
  exact w_X11_count_0 C hf t0 hw hl
set_option maxHeartbeats 4000000 in
set_option maxRecDepth 20000 in
theorem w_X12_within_0 (C : Cx p s m args meth c D b cX12_within 6 RX12 (some .boolean)) {r : Int} {μ' : Mem} {x0 x2 x4 : Int} {μ : Mem} {H : Heap} {locs : List Loc} {ls : Array Slot} (hf : f_X12_within x0 x2 x4 μ = some (r, μ')) (hw : Hw D b μ s.heap H locs) (hl : lvh b ls 6 [(0, 1, x0), (2, 1, x2), (4, 1, x4)]) : W p l e (rm 0) s m args below meth c H locs 0 0 (QM below args s D b (some (.int (jI r))) μ') (F0 m 0 ls []) := by
  unfold f_X12_within at hf
  refine r_lload_n C hl (kx := 0) rfl rfl dX12_within_0 ?_
  refine r_lload_n C hl (kx := 1) rfl rfl dX12_within_1 ?_
  refine r_lcmp C dX12_within_2 ?_
  refine r_if_lt C (tgt := 17) (by decide) dX12_within_3 (fun c1 => ?_) (fun c1 => ?_)
  · have hf := ite_t c1 hf
    refine r_iconst C dX12_within_17 ?_
    exact r_zret C hw (by decide) hf dX12_within_18
  · have hf := ite_f c1 hf
    refine r_lload_n C hl (kx := 0) rfl rfl dX12_within_6 ?_
    refine r_lload C hl (kx := 2) rfl dX12_within_7 ?_
    refine r_lcmp C dX12_within_9 ?_
    refine r_if_gt C (tgt := 17) (by decide) dX12_within_10 (fun c2 => ?_) (fun c2 => ?_)
    · have hf := ite_t c2 hf
      refine r_iconst C dX12_within_17 ?_
      exact r_zret C hw (by decide) hf dX12_within_18
    · have hf := ite_f c2 hf
      refine r_iconst C dX12_within_13 ?_
      refine r_goto C (tgt := 18) (by decide) dX12_within_14 ?_
      exact r_zret C hw (by decide) hf dX12_within_18
theorem c_X12_within (l : Launch) (D : Ds) (b : Nat) {x0 x2 x4 : Int} {μ μ' : Mem} {r : Int} (hf : f_X12_within x0 x2 x4 μ = some (r, μ')) : Ctr l D b yX12_within cX12_within 6 (some .boolean) 0 [(1, x0), (1, x2), (1, x4)] μ (some (.int (jI r))) μ' := by
  refine Ctr.of (by decide +kernel) (Nat.le_of_ble_eq_true rfl) ?_
  intro p e s m below meth c C hw ls hl
  exact w_X12_within_0 C hf hw hl
set_option maxHeartbeats 4000000 in
set_option maxRecDepth 20000 in
theorem w_X12_plain_2 (C : Cx p s m args meth c D b cX12_plain 2 RX12 (none)) {r : Int} {μ' : Mem} : ∀ (n : Nat) (x0 x1 : Int) (μ : Mem) (H : Heap) (locs : List Loc) (ls : Array Slot), f_X12_plain_w2 n x0 x1 μ = some (r, μ') → Hw D b μ s.heap H locs → lvh b ls 2 [(0, 2, x0), (1, 0, x1)] → W p l e (rm 0) s m args below meth c H locs 0 0 (QM below args s D b none μ') (F0 m 2 ls []) := by
  intro n
  induction n with
  | zero => intro x0 x1 μ H locs ls hf; cases hf
  | succ n ih =>
    intro x0 x1 μ H locs ls hf hw hl
    rw [f_X12_plain_w2.eq_2] at hf
    refine r_iload_n C hl (kx := 1) rfl rfl dX12_plain_2 ?_
    refine r_sipush C (by decide) dX12_plain_3 ?_
    refine r_icmp_ge C (tgt := 19) (by decide) dX12_plain_6 (fun c1 => ?_) (fun c1 => ?_)
    · have hf := ite_t c1 hf
      refine r_aload_n C hl (kx := 0) rfl rfl dX12_plain_19 ?_
      refine r_iconst C dX12_plain_20 ?_
      refine r_iconst C dX12_plain_21 ?_
      obtain ⟨g4, hf⟩ := gd_some hf
      obtain ⟨μ2, e3, hf⟩ := nm_some hf
      refine r_iastA C hw g4 dX12_plain_22 (fun H locs hw => ?_)
      rw [← e3] at hw
      exact r_vret C hw hf dX12_plain_23
    · have hf := ite_f c1 hf
      refine r_aload_n C hl (kx := 0) rfl rfl dX12_plain_9 ?_
      refine r_iload_n C hl (kx := 1) rfl rfl dX12_plain_10 ?_
      refine r_iconst C dX12_plain_11 ?_
      obtain ⟨g7, hf⟩ := gd_some hf
      obtain ⟨μ5, e6, hf⟩ := nm_some hf
      refine r_iastA C hw g7 dX12_plain_12 (fun H locs hw => ?_)
      rw [← e6] at hw
      refine r_iinc C hl (kx := 1) rfl (by decide) (L' := [(1, 0, (x1 + 1)), (0, 2, x0)]) rfl dX12_plain_13 (fun ls hl => ?_)
      refine r_goto C (tgt := 2) (by decide) dX12_plain_16 ?_
      exact ih _ _ _ _ _ _ hf hw (lvh_sub hl [1, 0] rfl)
set_option maxHeartbeats 4000000 in
set_option maxRecDepth 20000 in
theorem w_X12_plain_0 (C : Cx p s m args meth c D b cX12_plain 2 RX12 (none)) {r : Int} {μ' : Mem} {x0 : Int} {μ : Mem} {H : Heap} {locs : List Loc} {ls : Array Slot} (hf : f_X12_plain x0 μ = some (r, μ')) (hw : Hw D b μ s.heap H locs) (hl : lvh b ls 2 [(0, 2, x0)]) : W p l e (rm 0) s m args below meth c H locs 0 0 (QM below args s D b none μ') (F0 m 0 ls []) := by
  unfold f_X12_plain at hf
  refine r_iconst C dX12_plain_0 ?_
  refine r_istore_n C hl (by decide) (L' := [(1, 0, 0), (0, 2, x0)]) rfl rfl dX12_plain_1 (fun ls hl => ?_)
  exact w_X12_plain_2 C FU _ _ _ _ _ _ hf hw (lvh_sub hl [1, 0] rfl)
theorem c_X12_plain (l : Launch) (D : Ds) (b : Nat) {x0 : Int} {μ μ' : Mem} {r : Int} (hf : f_X12_plain x0 μ = some (r, μ')) : Ctr l D b yX12_plain cX12_plain 2 (none) 0 [(2, x0)] μ none μ' := by
  refine Ctr.of (by decide +kernel) (Nat.le_of_ble_eq_true rfl) ?_
  intro p e s m below meth c C hw ls hl
  exact w_X12_plain_0 C hf hw hl
set_option maxHeartbeats 4000000 in
set_option maxRecDepth 20000 in
theorem w_X12_feed_77 (C : Cx p s m args meth c D b cX12_feed 8 RX12 (some .int)) {r : Int} {μ' : Mem} (k24 : Int → Int → Int → Int → Int → Int → Int → Mem → Option (Int × Mem)) (h24 : ∀ (x0 x1 x2 x3 x4 x5 x6 : Int) (μ : Mem) (H : Heap) (locs : List Loc) (ls : Array Slot), k24 x0 x1 x2 x3 x4 x5 x6 μ = some (r, μ') → isK x0 12 → Hw D b μ s.heap H locs → lvh b ls 8 [(0, 2, x0), (1, 0, x1), (2, 0, x2), (3, 0, x3), (4, 0, x4), (5, 0, x5), (6, 0, x6)] → W p l e (rm 0) s m args below meth c H locs 0 0 (QM below args s D b (some (.int (jI r))) μ') (F0 m 24 ls [])) {x0 x1 x2 x3 x4 x5 x6 s0 : Int} {μ : Mem} {H : Heap} {locs : List Loc} {ls : Array Slot} (hf : f_X12_feed_j77 k24 x0 x1 x2 x3 x4 x5 x6 s0 μ = some (r, μ')) (t0 : isK x0 12) (hw : Hw D b μ s.heap H locs) (hl : lvh b ls 8 [(0, 2, x0), (1, 0, x1), (2, 0, x2), (3, 0, x3), (4, 0, x4), (5, 0, x5), (6, 0, x6)]) : W p l e (rm 0) s m args below meth c H locs 0 0 (QM below args s D b (some (.int (jI r))) μ') (F0 m 77 ls [.int (jI s0)]) := by
  unfold f_X12_feed_j77 at hf
  refine r_istore C hl (by decide) (L' := [(7, 0, s0), (0, 2, x0), (1, 0, x1), (2, 0, x2), (3, 0, x3), (4, 0, x4), (5, 0, x5), (6, 0, x6)]) rfl dX12_feed_77 (fun ls hl => ?_)
  refine r_aload_n C hl (kx := 1) rfl rfl dX12_feed_79 ?_
  refine gf_12_21 C hw t0 dX12_feed_80 ?_
  refine r_aload_n C hl (kx := 1) rfl rfl dX12_feed_83 ?_
  refine gf_12_74 C hw t0 dX12_feed_84 ?_
  refine r_iload C hl (kx := 0) rfl dX12_feed_87 ?_
  refine r_bipush C (by decide) dX12_feed_89 ?_
  refine r_bipush C (by decide) dX12_feed_91 ?_
  refine r_iload C hl (kx := 7) rfl dX12_feed_93 ?_
  refine r_iconst C dX12_feed_95 ?_
  refine r_irem C (by decide) dX12_feed_96 ?_
  refine r_imul C dX12_feed_97 ?_
  refine r_isub C dX12_feed_98 ?_
  refine r_ishr C dX12_feed_99 ?_
  refine r_sipush C (by decide) dX12_feed_100 ?_
  refine r_iand C dX12_feed_103 ?_
  obtain ⟨g3, hf⟩ := gd_some hf
  obtain ⟨μ1, e2, hf⟩ := nm_some hf
  refine r_iast C hw (n := 900) (ow_12_3 t0) (j := (nrm (μ x0 5))) rfl g3 (by decide) dX12_feed_104 (fun H locs hw => ?_)
  rw [← e2] at hw
  refine r_aload_n C hl (kx := 1) rfl rfl dX12_feed_105 ?_
  refine r_dup C (rfv_cat _ _) dX12_feed_106 ?_
  refine gf_12_74 C hw t0 dX12_feed_107 ?_
  refine r_iconst C dX12_feed_110 ?_
  refine r_iadd C dX12_feed_111 ?_
  obtain ⟨μ4, e5, hf⟩ := nm_some hf
  refine pf_12_74 C hw t0 dX12_feed_112 (fun H locs hw => ?_)
  rw [← e5] at hw
  refine r_iinc C hl (kx := 7) rfl (by decide) (L' := [(6, 0, (x6 + 1)), (7, 0, s0), (0, 2, x0), (1, 0, x1), (2, 0, x2), (3, 0, x3), (4, 0, x4), (5, 0, x5)]) rfl dX12_feed_115 (fun ls hl => ?_)
  refine r_goto C (tgt := 24) (by decide) dX12_feed_118 ?_
  exact h24 _ _ _ _ _ _ _ _ _ _ _ hf t0 hw (lvh_sub hl [2, 3, 4, 5, 6, 7, 0] rfl)
set_option maxHeartbeats 4000000 in
set_option maxRecDepth 20000 in
theorem w_X12_feed_24 (C : Cx p s m args meth c D b cX12_feed 8 RX12 (some .int)) {r : Int} {μ' : Mem} : ∀ (n : Nat) (x0 x1 x2 x3 x4 x5 x6 : Int) (μ : Mem) (H : Heap) (locs : List Loc) (ls : Array Slot), f_X12_feed_w24 n x0 x1 x2 x3 x4 x5 x6 μ = some (r, μ') → isK x0 12 → Hw D b μ s.heap H locs → lvh b ls 8 [(0, 2, x0), (1, 0, x1), (2, 0, x2), (3, 0, x3), (4, 0, x4), (5, 0, x5), (6, 0, x6)] → W p l e (rm 0) s m args below meth c H locs 0 0 (QM below args s D b (some (.int (jI r))) μ') (F0 m 24 ls []) := by
  intro n
  induction n with
  | zero => intro x0 x1 x2 x3 x4 x5 x6 μ H locs ls hf; cases hf
  | succ n ih =>
    intro x0 x1 x2 x3 x4 x5 x6 μ H locs ls hf t0 hw hl
    rw [f_X12_feed_w24.eq_2] at hf
    refine r_iload C hl (kx := 6) rfl dX12_feed_24 ?_
    refine r_bipush C (by decide) dX12_feed_26 ?_
    refine r_icmp_ge C (tgt := 121) (by decide) dX12_feed_28 (fun c1 => ?_) (fun c1 => ?_)
    · have hf := ite_t c1 hf
      refine r_aload_n C hl (kx := 0) rfl rfl dX12_feed_121 ?_
      refine gf_12_74 C hw t0 dX12_feed_122 ?_
      exact r_iret C hw hf dX12_feed_125
    · have hf := ite_f c1 hf
      refine r_iload C hl (kx := 6) rfl dX12_feed_31 ?_
      refine r_iconst C dX12_feed_33 ?_
      refine r_icmp_ge C (tgt := 41) (by decide) dX12_feed_34 (fun c2 => ?_) (fun c2 => ?_)
      · have hf := ite_t c2 hf
        refine r_iload C hl (kx := 6) rfl dX12_feed_41 ?_
        refine r_bipush C (by decide) dX12_feed_43 ?_
        refine r_icmp_ge C (tgt := 52) (by decide) dX12_feed_45 (fun c3 => ?_) (fun c3 => ?_)
        · have hf := ite_t c3 hf
          refine r_iload C hl (kx := 6) rfl dX12_feed_52 ?_
          refine r_bipush C (by decide) dX12_feed_54 ?_
          refine r_icmp_ge C (tgt := 63) (by decide) dX12_feed_56 (fun c4 => ?_) (fun c4 => ?_)
          · have hf := ite_t c4 hf
            refine r_iload C hl (kx := 6) rfl dX12_feed_63 ?_
            refine r_bipush C (by decide) dX12_feed_65 ?_
            refine r_icmp_ge C (tgt := 75) (by decide) dX12_feed_67 (fun c5 => ?_) (fun c5 => ?_)
            · have hf := ite_t c5 hf
              refine r_iload C hl (kx := 5) rfl dX12_feed_75 ?_
              exact w_X12_feed_77 C _ ih hf t0 hw (lvh_sub hl [0, 1, 2, 3, 4, 5, 6] rfl)
            · have hf := ite_f c5 hf
              refine r_iload C hl (kx := 4) rfl dX12_feed_70 ?_
              refine r_goto C (tgt := 77) (by decide) dX12_feed_72 ?_
              exact w_X12_feed_77 C _ ih hf t0 hw (lvh_sub hl [0, 1, 2, 3, 4, 5, 6] rfl)
          · have hf := ite_f c4 hf
            refine r_iload_n C hl (kx := 3) rfl rfl dX12_feed_59 ?_
            refine r_goto C (tgt := 77) (by decide) dX12_feed_60 ?_
            exact w_X12_feed_77 C _ ih hf t0 hw (lvh_sub hl [0, 1, 2, 3, 4, 5, 6] rfl)
        · have hf := ite_f c3 hf
          refine r_iload_n C hl (kx := 2) rfl rfl dX12_feed_48 ?_
          refine r_goto C (tgt := 77) (by decide) dX12_feed_49 ?_
          exact w_X12_feed_77 C _ ih hf t0 hw (lvh_sub hl [0, 1, 2, 3, 4, 5, 6] rfl)
      · have hf := ite_f c2 hf
        refine r_iload_n C hl (kx := 1) rfl rfl dX12_feed_37 ?_
        refine r_goto C (tgt := 77) (by decide) dX12_feed_38 ?_
        exact w_X12_feed_77 C _ ih hf t0 hw (lvh_sub hl [0, 1, 2, 3, 4, 5, 6] rfl)
set_option maxHeartbeats 4000000 in
set_option maxRecDepth 20000 in
theorem w_X12_feed_0 (C : Cx p s m args meth c D b cX12_feed 8 RX12 (some .int)) {r : Int} {μ' : Mem} {x0 x1 x2 x3 x4 x5 : Int} {μ : Mem} {H : Heap} {locs : List Loc} {ls : Array Slot} (hf : f_X12_feed x0 x1 x2 x3 x4 x5 μ = some (r, μ')) (t0 : isK x0 12) (hw : Hw D b μ s.heap H locs) (hl : lvh b ls 8 [(0, 2, x0), (1, 0, x1), (2, 0, x2), (3, 0, x3), (4, 0, x4), (5, 0, x5)]) : W p l e (rm 0) s m args below meth c H locs 0 0 (QM below args s D b (some (.int (jI r))) μ') (F0 m 0 ls []) := by
  unfold f_X12_feed at hf
  refine r_aload_n C hl (kx := 0) rfl rfl dX12_feed_0 ?_
  refine r_iconst C dX12_feed_1 ?_
  obtain ⟨μ1, e2, hf⟩ := nm_some hf
  refine pf_12_1 C hw t0 dX12_feed_2 (fun H locs hw => ?_)
  rw [← e2] at hw
  refine r_aload_n C hl (kx := 0) rfl rfl dX12_feed_5 ?_
  refine gf_12_74 C hw t0 dX12_feed_6 ?_
  refine r_bipush C (by decide) dX12_feed_9 ?_
  refine r_iadd C dX12_feed_11 ?_
  refine r_sipush C (by decide) dX12_feed_12 ?_
  refine r_icmp_le C (tgt := 21) (by decide) dX12_feed_15 (fun c3 => ?_) (fun c3 => ?_)
  · have hf := ite_t c3 hf
    refine r_iconst C dX12_feed_21 ?_
    refine r_istore C hl (by decide) (L' := [(6, 0, 0), (0, 2, x0), (1, 0, x1), (2, 0, x2), (3, 0, x3), (4, 0, x4), (5, 0, x5)]) rfl dX12_feed_22 (fun ls hl => ?_)
    exact w_X12_feed_24 C FU _ _ _ _ _ _ _ _ _ _ _ hf t0 hw (lvh_sub hl [1, 2, 3, 4, 5, 6, 0] rfl)
  · have hf := ite_f c3 hf
    refine r_bipush C (by decide) dX12_feed_18 ?_
    exact r_iret C hw hf dX12_feed_20
theorem c_X12_feed (l : Launch) (D : Ds) (b : Nat) {x0 x1 x2 x3 x4 x5 : Int} {μ μ' : Mem} {r : Int} (t0 : isK x0 12) (hf : f_X12_feed x0 x1 x2 x3 x4 x5 μ = some (r, μ')) : Ctr l D b yX12_feed cX12_feed 8 (some .int) 0 [(2, x0), (0, x1), (0, x2), (0, x3), (0, x4), (0, x5)] μ (some (.int (jI r))) μ' := by
  refine Ctr.of (by decide +kernel) (Nat.le_of_ble_eq_true rfl) ?_
  intro p e s m below meth c C hw ls hl
  exact w_X12_feed_0 C hf t0 hw hl
set_option maxHeartbeats 4000000 in
set_option maxRecDepth 20000 in
theorem w_X12_see_0 (C : Cx p s m args meth c D b cX12_see 2 RX12 (some .int)) {r : Int} {μ' : Mem} {x0 x1 : Int} {μ : Mem} {H : Heap} {locs : List Loc} {ls : Array Slot} (hf : f_X12_see x0 x1 μ = some (r, μ')) (t0 : isK x0 12) (hw : Hw D b μ s.heap H locs) (hl : lvh b ls 2 [(0, 2, x0), (1, 0, x1)]) : W p l e (rm 0) s m args below meth c H locs 0 0 (QM below args s D b (some (.int (jI r))) μ') (F0 m 0 ls []) := by
  unfold f_X12_see at hf
  refine r_iload_n C hl (kx := 1) rfl rfl dX12_see_0 ?_
  refine r_aload_n C hl (kx := 0) rfl rfl dX12_see_1 ?_
  refine gf_12_77 C hw t0 dX12_see_2 ?_
  refine r_icmp_ge C (tgt := 17) (by decide) dX12_see_5 (fun c1 => ?_) (fun c1 => ?_)
  · have hf := ite_t c1 hf
    refine r_iconst C dX12_see_17 ?_
    exact r_iret C hw hf dX12_see_18
  · have hf := ite_f c1 hf
    refine r_aload_n C hl (kx := 0) rfl rfl dX12_see_8 ?_
    refine gf_12_21 C hw t0 dX12_see_9 ?_
    refine r_iload_n C hl (kx := 1) rfl rfl dX12_see_12 ?_
    obtain ⟨g2, hf⟩ := gd_some hf
    refine r_iald C hw (n := 900) (ow_12_3 t0) (j := (nrm x1)) rfl g2 (by decide) dX12_see_13 ?_
    refine r_goto C (tgt := 18) (by decide) dX12_see_14 ?_
    exact r_iret C hw hf dX12_see_18
theorem c_X12_see (l : Launch) (D : Ds) (b : Nat) {x0 x1 : Int} {μ μ' : Mem} {r : Int} (t0 : isK x0 12) (hf : f_X12_see x0 x1 μ = some (r, μ')) : Ctr l D b yX12_see cX12_see 2 (some .int) 0 [(2, x0), (0, x1)] μ (some (.int (jI r))) μ' := by
  refine Ctr.of (by decide +kernel) (Nat.le_of_ble_eq_true rfl) ?_
  intro p e s m below meth c C hw ls hl
  exact w_X12_see_0 C hf t0 hw hl
set_option maxHeartbeats 4000000 in
set_option maxRecDepth 20000 in
theorem w_X12_isSmall_0 (C : Cx p s m args meth c D b cX12_isSmall 1 RX12 (some .boolean)) {r : Int} {μ' : Mem} {x0 : Int} {μ : Mem} {H : Heap} {locs : List Loc} {ls : Array Slot} (hf : f_X12_isSmall x0 μ = some (r, μ')) (hw : Hw D b μ s.heap H locs) (hl : lvh b ls 1 [(0, 0, x0)]) : W p l e (rm 0) s m args below meth c H locs 0 0 (QM below args s D b (some (.int (jI r))) μ') (F0 m 0 ls []) := by
  unfold f_X12_isSmall at hf
  refine r_iload_n C hl (kx := 0) rfl rfl dX12_isSmall_0 ?_
  refine r_bipush C (by decide) dX12_isSmall_1 ?_
  refine r_icmp_lt C (tgt := 16) (by decide) dX12_isSmall_3 (fun c1 => ?_) (fun c1 => ?_)
  · have hf := ite_t c1 hf
    refine r_iconst C dX12_isSmall_16 ?_
    exact r_zret C hw (by decide) hf dX12_isSmall_17
  · have hf := ite_f c1 hf
    refine r_iload_n C hl (kx := 0) rfl rfl dX12_isSmall_6 ?_
    refine r_bipush C (by decide) dX12_isSmall_7 ?_
    refine r_icmp_gt C (tgt := 16) (by decide) dX12_isSmall_9 (fun c2 => ?_) (fun c2 => ?_)
    · have hf := ite_t c2 hf
      refine r_iconst C dX12_isSmall_16 ?_
      exact r_zret C hw (by decide) hf dX12_isSmall_17
    · have hf := ite_f c2 hf
      refine r_iconst C dX12_isSmall_12 ?_
      refine r_goto C (tgt := 17) (by decide) dX12_isSmall_13 ?_
      exact r_zret C hw (by decide) hf dX12_isSmall_17
theorem c_X12_isSmall (l : Launch) (D : Ds) (b : Nat) {x0 : Int} {μ μ' : Mem} {r : Int} (hf : f_X12_isSmall x0 μ = some (r, μ')) : Ctr l D b yX12_isSmall cX12_isSmall 1 (some .boolean) 0 [(0, x0)] μ (some (.int (jI r))) μ' := by
  refine Ctr.of (by decide +kernel) (Nat.le_of_ble_eq_true rfl) ?_
  intro p e s m below meth c C hw ls hl
  exact w_X12_isSmall_0 C hf hw hl
set_option maxHeartbeats 4000000 in
set_option maxRecDepth 20000 in
theorem w_X12_isDigit_0 (C : Cx p s m args meth c D b cX12_isDigit 1 RX12 (some .boolean)) {r : Int} {μ' : Mem} {x0 : Int} {μ : Mem} {H : Heap} {locs : List Loc} {ls : Array Slot} (hf : f_X12_isDigit x0 μ = some (r, μ')) (hw : Hw D b μ s.heap H locs) (hl : lvh b ls 1 [(0, 0, x0)]) : W p l e (rm 0) s m args below meth c H locs 0 0 (QM below args s D b (some (.int (jI r))) μ') (F0 m 0 ls []) := by
  unfold f_X12_isDigit at hf
  refine r_iload_n C hl (kx := 0) rfl rfl dX12_isDigit_0 ?_
  refine r_bipush C (by decide) dX12_isDigit_1 ?_
  refine r_icmp_lt C (tgt := 16) (by decide) dX12_isDigit_3 (fun c1 => ?_) (fun c1 => ?_)
  · have hf := ite_t c1 hf
    refine r_iconst C dX12_isDigit_16 ?_
    exact r_zret C hw (by decide) hf dX12_isDigit_17
  · have hf := ite_f c1 hf
    refine r_iload_n C hl (kx := 0) rfl rfl dX12_isDigit_6 ?_
    refine r_bipush C (by decide) dX12_isDigit_7 ?_
    refine r_icmp_gt C (tgt := 16) (by decide) dX12_isDigit_9 (fun c2 => ?_) (fun c2 => ?_)
    · have hf := ite_t c2 hf
      refine r_iconst C dX12_isDigit_16 ?_
      exact r_zret C hw (by decide) hf dX12_isDigit_17
    · have hf := ite_f c2 hf
      refine r_iconst C dX12_isDigit_12 ?_
      refine r_goto C (tgt := 17) (by decide) dX12_isDigit_13 ?_
      exact r_zret C hw (by decide) hf dX12_isDigit_17
theorem c_X12_isDigit (l : Launch) (D : Ds) (b : Nat) {x0 : Int} {μ μ' : Mem} {r : Int} (hf : f_X12_isDigit x0 μ = some (r, μ')) : Ctr l D b yX12_isDigit cX12_isDigit 1 (some .boolean) 0 [(0, x0)] μ (some (.int (jI r))) μ' := by
  refine Ctr.of (by decide +kernel) (Nat.le_of_ble_eq_true rfl) ?_
  intro p e s m below meth c C hw ls hl
  exact w_X12_isDigit_0 C hf hw hl
set_option maxHeartbeats 4000000 in
set_option maxRecDepth 20000 in
theorem w_X12_keyAt_97 (C : Cx p s m args meth c D b cX12_keyAt 4 RX12 (some .int)) {r : Int} {μ' : Mem} (k4 : Int → Int → Int → Mem → Option (Int × Mem)) (h4 : ∀ (x0 x1 x2 : Int) (μ : Mem) (H : Heap) (locs : List Loc) (ls : Array Slot), k4 x0 x1 x2 μ = some (r, μ') → isK x0 12 → Hw D b μ s.heap H locs → lvh b ls 4 [(0, 2, x0), (1, 0, x1), (2, 0, x2)] → W p l e (rm 7) s m args below meth c H locs 0 0 (QM below args s D b (some (.int (jI r))) μ') (F0 m 4 ls [])) : ∀ (n : Nat) (x0 x1 x2 : Int) (μ : Mem) (H : Heap) (locs : List Loc) (ls : Array Slot), f_X12_keyAt_w97 k4 n x0 x1 x2 μ = some (r, μ') → isK x0 12 → Hw D b μ s.heap H locs → lvh b ls 4 [(0, 2, x0), (1, 0, x1), (2, 0, x2)] → W p l e (rm 7) s m args below meth c H locs 0 0 (QM below args s D b (some (.int (jI r))) μ') (F0 m 97 ls []) := by
  intro n
  induction n with
  | zero => intro x0 x1 x2 μ H locs ls hf; cases hf
  | succ n ih =>
    intro x0 x1 x2 μ H locs ls hf t0 hw hl
    rw [f_X12_keyAt_w97.eq_2] at hf
    refine r_ldcS2_12 C dX12_keyAt_97 ?_
    refine r_iload_n C hl (kx := 2) rfl rfl dX12_keyAt_99 ?_
    obtain ⟨g1, hf⟩ := gd_some hf
    refine r_schar2 C hw g1 kl_12_88 (lvh_sz hl) (by decide) (Nat.le_of_ble_eq_true rfl) dX12_keyAt_100 (fun H locs hw => ?_)
    refine r_bipush C (by decide) dX12_keyAt_103 ?_
    refine r_icmp_eq C (tgt := 114) (by decide) dX12_keyAt_105 (fun c2 => ?_) (fun c2 => ?_)
    · have hf := ite_t c2 hf
      refine r_iinc C hl (kx := 2) rfl (by decide) (L' := [(2, 0, (x2 + 1)), (0, 2, x0), (1, 0, x1)]) rfl dX12_keyAt_114 (fun ls hl => ?_)
      refine r_iinc C hl (kx := 2) rfl (by decide) (L' := [(1, 0, (x1 + 1)), (2, 0, (x2 + 1)), (0, 2, x0)]) rfl dX12_keyAt_117 (fun ls hl => ?_)
      refine r_goto C (tgt := 4) (by decide) dX12_keyAt_120 ?_
      exact h4 _ _ _ _ _ _ _ hf t0 hw (lvh_sub hl [2, 0, 1] rfl)
    · have hf := ite_f c2 hf
      refine r_iinc C hl (kx := 2) rfl (by decide) (L' := [(2, 0, (x2 + 1)), (0, 2, x0), (1, 0, x1)]) rfl dX12_keyAt_108 (fun ls hl => ?_)
      refine r_goto C (tgt := 97) (by decide) dX12_keyAt_111 ?_
      exact ih _ _ _ _ _ _ _ hf t0 hw (lvh_sub hl [1, 2, 0] rfl)
set_option maxHeartbeats 4000000 in
set_option maxRecDepth 20000 in
theorem w_X12_keyAt_69 (C : Cx p s m args meth c D b cX12_keyAt 4 RX12 (some .int)) {r : Int} {μ' : Mem} (k4 : Int → Int → Int → Mem → Option (Int × Mem)) (h4 : ∀ (x0 x1 x2 : Int) (μ : Mem) (H : Heap) (locs : List Loc) (ls : Array Slot), k4 x0 x1 x2 μ = some (r, μ') → isK x0 12 → Hw D b μ s.heap H locs → lvh b ls 4 [(0, 2, x0), (1, 0, x1), (2, 0, x2)] → W p l e (rm 7) s m args below meth c H locs 0 0 (QM below args s D b (some (.int (jI r))) μ') (F0 m 4 ls [])) {x0 x1 x2 x3 : Int} {μ : Mem} {H : Heap} {locs : List Loc} {ls : Array Slot} (hf : f_X12_keyAt_j69 k4 x0 x1 x2 x3 μ = some (r, μ')) (t0 : isK x0 12) (hw : Hw D b μ s.heap H locs) (hl : lvh b ls 4 [(0, 2, x0), (1, 0, x1), (2, 0, x2), (3, 0, x3)]) : W p l e (rm 7) s m args below meth c H locs 0 0 (QM below args s D b (some (.int (jI r))) μ') (F0 m 69 ls []) := by
  unfold f_X12_keyAt_j69 at hf
  refine r_ldcS2_12 C dX12_keyAt_69 ?_
  refine r_iload_n C hl (kx := 2) rfl rfl dX12_keyAt_71 ?_
  refine r_iload_n C hl (kx := 3) rfl rfl dX12_keyAt_72 ?_
  refine r_iadd C dX12_keyAt_73 ?_
  obtain ⟨g1, hf⟩ := gd_some hf
  refine r_schar2 C hw g1 kl_12_88 (lvh_sz hl) (by decide) (Nat.le_of_ble_eq_true rfl) dX12_keyAt_74 (fun H locs hw => ?_)
  refine r_bipush C (by decide) dX12_keyAt_77 ?_
  refine r_icmp_ne C (tgt := 97) (by decide) dX12_keyAt_79 (fun c2 => ?_) (fun c2 => ?_)
  · have hf := ite_f c2 hf
    exact w_X12_keyAt_97 C _ h4 FU _ _ _ _ _ _ _ hf t0 hw (lvh_sub hl [0, 1, 2] rfl)
  · have hf := ite_t c2 hf
    refine r_aload_n C hl (kx := 0) rfl rfl dX12_keyAt_82 ?_
    refine gf_12_92 C hw t0 dX12_keyAt_83 ?_
    refine r_iload_n C hl (kx := 3) rfl rfl dX12_keyAt_86 ?_
    refine r_iadd C dX12_keyAt_87 ?_
    refine r_aload_n C hl (kx := 0) rfl rfl dX12_keyAt_88 ?_
    refine gf_12_95 C hw t0 dX12_keyAt_89 ?_
    refine r_icmp_ne C (tgt := 97) (by decide) dX12_keyAt_92 (fun c3 => ?_) (fun c3 => ?_)
    · have hf := ite_f c3 hf
      exact w_X12_keyAt_97 C _ h4 FU _ _ _ _ _ _ _ hf t0 hw (lvh_sub hl [0, 1, 2] rfl)
    · have hf := ite_t c3 hf
      refine r_iload_n C hl (kx := 1) rfl rfl dX12_keyAt_95 ?_
      exact r_iret C hw hf dX12_keyAt_96
set_option maxHeartbeats 4000000 in
set_option maxRecDepth 20000 in
theorem w_X12_keyAt_15 (C : Cx p s m args meth c D b cX12_keyAt 4 RX12 (some .int)) {r : Int} {μ' : Mem} (k4 : Int → Int → Int → Mem → Option (Int × Mem)) (h4 : ∀ (x0 x1 x2 : Int) (μ : Mem) (H : Heap) (locs : List Loc) (ls : Array Slot), k4 x0 x1 x2 μ = some (r, μ') → isK x0 12 → Hw D b μ s.heap H locs → lvh b ls 4 [(0, 2, x0), (1, 0, x1), (2, 0, x2)] → W p l e (rm 7) s m args below meth c H locs 0 0 (QM below args s D b (some (.int (jI r))) μ') (F0 m 4 ls [])) : ∀ (n : Nat) (x0 x1 x2 x3 : Int) (μ : Mem) (H : Heap) (locs : List Loc) (ls : Array Slot), f_X12_keyAt_w15 k4 n x0 x1 x2 x3 μ = some (r, μ') → isK x0 12 → Hw D b μ s.heap H locs → lvh b ls 4 [(0, 2, x0), (1, 0, x1), (2, 0, x2), (3, 0, x3)] → W p l e (rm 7) s m args below meth c H locs 0 0 (QM below args s D b (some (.int (jI r))) μ') (F0 m 15 ls []) := by
  intro n
  induction n with
  | zero => intro x0 x1 x2 x3 μ H locs ls hf; cases hf
  | succ n ih =>
    intro x0 x1 x2 x3 μ H locs ls hf t0 hw hl
    rw [f_X12_keyAt_w15.eq_2] at hf
    refine r_ldcS2_12 C dX12_keyAt_15 ?_
    refine r_iload_n C hl (kx := 2) rfl rfl dX12_keyAt_17 ?_
    refine r_iload_n C hl (kx := 3) rfl rfl dX12_keyAt_18 ?_
    refine r_iadd C dX12_keyAt_19 ?_
    obtain ⟨g1, hf⟩ := gd_some hf
    refine r_schar2 C hw g1 kl_12_88 (lvh_sz hl) (by decide) (Nat.le_of_ble_eq_true rfl) dX12_keyAt_20 (fun H locs hw => ?_)
    refine r_bipush C (by decide) dX12_keyAt_23 ?_
    refine r_icmp_eq C (tgt := 69) (by decide) dX12_keyAt_25 (fun c2 => ?_) (fun c2 => ?_)
    · have hf := ite_t c2 hf
      exact w_X12_keyAt_69 C _ h4 hf t0 hw (lvh_sub hl [0, 1, 2, 3] rfl)
    · have hf := ite_f c2 hf
      refine r_aload_n C hl (kx := 0) rfl rfl dX12_keyAt_28 ?_
      refine gf_12_92 C hw t0 dX12_keyAt_29 ?_
      refine r_iload_n C hl (kx := 3) rfl rfl dX12_keyAt_32 ?_
      refine r_iadd C dX12_keyAt_33 ?_
      refine r_aload_n C hl (kx := 0) rfl rfl dX12_keyAt_34 ?_
      refine gf_12_95 C hw t0 dX12_keyAt_35 ?_
      refine r_icmp_ge C (tgt := 69) (by decide) dX12_keyAt_38 (fun c3 => ?_) (fun c3 => ?_)
      · have hf := ite_t c3 hf
        exact w_X12_keyAt_69 C _ h4 hf t0 hw (lvh_sub hl [0, 1, 2, 3] rfl)
      · have hf := ite_f c3 hf
        refine r_aload_n C hl (kx := 0) rfl rfl dX12_keyAt_41 ?_
        refine gf_12_21 C hw t0 dX12_keyAt_42 ?_
        refine r_aload_n C hl (kx := 0) rfl rfl dX12_keyAt_45 ?_
        refine gf_12_92 C hw t0 dX12_keyAt_46 ?_
        refine r_iload_n C hl (kx := 3) rfl rfl dX12_keyAt_49 ?_
        refine r_iadd C dX12_keyAt_50 ?_
        obtain ⟨g4, hf⟩ := gd_some hf
        refine r_iald C hw (n := 900) (ow_12_3 t0) (j := (nrm ((μ x0 6) + x3))) rfl g4 (by decide) dX12_keyAt_51 ?_
        refine r_ldcS2_12 C dX12_keyAt_52 ?_
        refine r_iload_n C hl (kx := 2) rfl rfl dX12_keyAt_54 ?_
        refine r_iload_n C hl (kx := 3) rfl rfl dX12_keyAt_55 ?_
        refine r_iadd C dX12_keyAt_56 ?_
        obtain ⟨g5, hf⟩ := gd_some hf
        refine r_schar2 C hw g5 kl_12_88 (lvh_sz hl) (by decide) (Nat.le_of_ble_eq_true rfl) dX12_keyAt_57 (fun H locs hw => ?_)
        refine r_icmp_ne C (tgt := 69) (by decide) dX12_keyAt_60 (fun c6 => ?_) (fun c6 => ?_)
        · have hf := ite_f c6 hf
          exact w_X12_keyAt_69 C _ h4 hf t0 hw (lvh_sub hl [0, 1, 2, 3] rfl)
        · have hf := ite_t c6 hf
          refine r_iinc C hl (kx := 3) rfl (by decide) (L' := [(3, 0, (x3 + 1)), (0, 2, x0), (1, 0, x1), (2, 0, x2)]) rfl dX12_keyAt_63 (fun ls hl => ?_)
          refine r_goto C (tgt := 15) (by decide) dX12_keyAt_66 ?_
          exact ih _ _ _ _ _ _ _ _ hf t0 hw (lvh_sub hl [1, 2, 3, 0] rfl)
set_option maxHeartbeats 4000000 in
set_option maxRecDepth 20000 in
theorem w_X12_keyAt_4 (C : Cx p s m args meth c D b cX12_keyAt 4 RX12 (some .int)) {r : Int} {μ' : Mem} : ∀ (n : Nat) (x0 x1 x2 : Int) (μ : Mem) (H : Heap) (locs : List Loc) (ls : Array Slot), f_X12_keyAt_w4 n x0 x1 x2 μ = some (r, μ') → isK x0 12 → Hw D b μ s.heap H locs → lvh b ls 4 [(0, 2, x0), (1, 0, x1), (2, 0, x2)] → W p l e (rm 7) s m args below meth c H locs 0 0 (QM below args s D b (some (.int (jI r))) μ') (F0 m 4 ls []) := by
  intro n
  induction n with
  | zero => intro x0 x1 x2 μ H locs ls hf; cases hf
  | succ n ih =>
    intro x0 x1 x2 μ H locs ls hf t0 hw hl
    rw [f_X12_keyAt_w4.eq_2] at hf
    refine r_iload_n C hl (kx := 2) rfl rfl dX12_keyAt_4 ?_
    refine r_ldcS2_12 C dX12_keyAt_5 ?_
    refine r_slen2 C hw kl_12_82 (lvh_sz hl) (by decide) (Nat.le_of_ble_eq_true rfl) dX12_keyAt_7 (fun H locs hw => ?_)
    refine r_icmp_ge C (tgt := 123) (by decide) dX12_keyAt_10 (fun c1 => ?_) (fun c1 => ?_)
    · have hf := ite_t c1 hf
      refine r_bipush C (by decide) dX12_keyAt_123 ?_
      exact r_iret C hw hf dX12_keyAt_125
    · have hf := ite_f c1 hf
      refine r_iconst C dX12_keyAt_13 ?_
      refine r_istore_n C hl (by decide) (L' := [(3, 0, 0), (0, 2, x0), (1, 0, x1), (2, 0, x2)]) rfl rfl dX12_keyAt_14 (fun ls hl => ?_)
      exact w_X12_keyAt_15 C _ ih FU _ _ _ _ _ _ _ _ hf t0 hw (lvh_sub hl [1, 2, 3, 0] rfl)
set_option maxHeartbeats 4000000 in
set_option maxRecDepth 20000 in
theorem w_X12_keyAt_0 (C : Cx p s m args meth c D b cX12_keyAt 4 RX12 (some .int)) {r : Int} {μ' : Mem} {x0 : Int} {μ : Mem} {H : Heap} {locs : List Loc} {ls : Array Slot} (hf : f_X12_keyAt x0 μ = some (r, μ')) (t0 : isK x0 12) (hw : Hw D b μ s.heap H locs) (hl : lvh b ls 4 [(0, 2, x0)]) : W p l e (rm 7) s m args below meth c H locs 0 0 (QM below args s D b (some (.int (jI r))) μ') (F0 m 0 ls []) := by
  unfold f_X12_keyAt at hf
  refine r_iconst C dX12_keyAt_0 ?_
  refine r_istore_n C hl (by decide) (L' := [(1, 0, 0), (0, 2, x0)]) rfl rfl dX12_keyAt_1 (fun ls hl => ?_)
  refine r_iconst C dX12_keyAt_2 ?_
  refine r_istore_n C hl (by decide) (L' := [(2, 0, 1), (1, 0, 0), (0, 2, x0)]) rfl rfl dX12_keyAt_3 (fun ls hl => ?_)
  exact w_X12_keyAt_4 C FU _ _ _ _ _ _ _ hf t0 hw (lvh_sub hl [2, 1, 0] rfl)
theorem c_X12_keyAt (l : Launch) (D : Ds) (b : Nat) {x0 : Int} {μ μ' : Mem} {r : Int} (t0 : isK x0 12) (hf : f_X12_keyAt x0 μ = some (r, μ')) : Ctr l D b yX12_keyAt cX12_keyAt 4 (some .int) 7 [(2, x0)] μ (some (.int (jI r))) μ' := by
  refine Ctr.of (by decide +kernel) (Nat.le_of_ble_eq_true rfl) ?_
  intro p e s m below meth c C hw ls hl
  exact w_X12_keyAt_0 C hf t0 hw hl
set_option maxHeartbeats 4000000 in
set_option maxRecDepth 20000 in
theorem w_X12_next_34 (C : Cx p s m args meth c D b cX12_next 2 RX12 (none)) {r : Int} {μ' : Mem} (k8 : Int → Mem → Option (Int × Mem)) (h8 : ∀ (x0 : Int) (μ : Mem) (H : Heap) (locs : List Loc) (ls : Array Slot), k8 x0 μ = some (r, μ') → isK x0 12 → Hw D b μ s.heap H locs → lvh b ls 2 [(0, 2, x0)] → W p l e (rm 8) s m args below meth c H locs 0 0 (QM below args s D b none μ') (F0 m 8 ls [])) {x0 : Int} {μ : Mem} {H : Heap} {locs : List Loc} {ls : Array Slot} (hf : f_X12_next_j34 k8 x0 μ = some (r, μ')) (t0 : isK x0 12) (hw : Hw D b μ s.heap H locs) (hl : lvh b ls 2 [(0, 2, x0)]) : W p l e (rm 8) s m args below meth c H locs 0 0 (QM below args s D b none μ') (F0 m 34 ls []) := by
  unfold f_X12_next_j34 at hf
  refine r_aload_n C hl (kx := 0) rfl rfl dX12_next_34 ?_
  refine r_dup C (rfv_cat _ _) dX12_next_35 ?_
  refine gf_12_92 C hw t0 dX12_next_36 ?_
  refine r_iconst C dX12_next_39 ?_
  refine r_iadd C dX12_next_40 ?_
  obtain ⟨μ1, e2, hf⟩ := nm_some hf
  refine pf_12_92 C hw t0 dX12_next_41 (fun H locs hw => ?_)
  rw [← e2] at hw
  refine r_goto C (tgt := 8) (by decide) dX12_next_44 ?_
  exact h8 _ _ _ _ _ hf t0 hw (lvh_sub hl [0] rfl)
set_option maxHeartbeats 4000000 in
set_option maxRecDepth 20000 in
theorem w_X12_next_288 (C : Cx p s m args meth c D b cX12_next 2 RX12 (none)) {r : Int} {μ' : Mem} (k254 : Int → Int → Mem → Option (Int × Mem)) (h254 : ∀ (x0 x1 : Int) (μ : Mem) (H : Heap) (locs : List Loc) (ls : Array Slot), k254 x0 x1 μ = some (r, μ') → isK x0 12 → Hw D b μ s.heap H locs → lvh b ls 2 [(0, 2, x0), (1, 0, x1)] → W p l e (rm 8) s m args below meth c H locs 0 0 (QM below args s D b none μ') (F0 m 254 ls [])) {x0 x1 : Int} {μ : Mem} {H : Heap} {locs : List Loc} {ls : Array Slot} (hf : f_X12_next_j288 k254 x0 x1 μ = some (r, μ')) (t0 : isK x0 12) (hw : Hw D b μ s.heap H locs) (hl : lvh b ls 2 [(0, 2, x0), (1, 0, x1)]) : W p l e (rm 8) s m args below meth c H locs 0 0 (QM below args s D b none μ') (F0 m 288 ls []) := by
  unfold f_X12_next_j288 at hf
  refine r_iinc C hl (kx := 1) rfl (by decide) (L' := [(1, 0, (x1 + 1)), (0, 2, x0)]) rfl dX12_next_288 (fun ls hl => ?_)
  refine r_goto C (tgt := 254) (by decide) dX12_next_291 ?_
  exact h254 _ _ _ _ _ _ hf t0 hw (lvh_sub hl [1, 0] rfl)
set_option maxHeartbeats 4000000 in
set_option maxRecDepth 20000 in
theorem w_X12_next_254 (C : Cx p s m args meth c D b cX12_next 2 RX12 (none)) {r : Int} {μ' : Mem} : ∀ (n : Nat) (x0 x1 : Int) (μ : Mem) (H : Heap) (locs : List Loc) (ls : Array Slot), f_X12_next_w254 n x0 x1 μ = some (r, μ') → isK x0 12 → Hw D b μ s.heap H locs → lvh b ls 2 [(0, 2, x0), (1, 0, x1)] → W p l e (rm 8) s m args below meth c H locs 0 0 (QM below args s D b none μ') (F0 m 254 ls []) := by
  intro n
  induction n with
  | zero => intro x0 x1 μ H locs ls hf; cases hf
  | succ n ih =>
    intro x0 x1 μ H locs ls hf t0 hw hl
    rw [f_X12_next_w254.eq_2] at hf
    refine r_iload_n C hl (kx := 1) rfl rfl dX12_next_254 ?_
    refine r_ldcS1_12 C dX12_next_255 ?_
    refine r_slen1 C hw kl_12_82 (lvh_sz hl) (by decide) (Nat.le_of_ble_eq_true rfl) dX12_next_257 (fun H locs hw => ?_)
    refine r_icmp_ge C (tgt := 294) (by decide) dX12_next_260 (fun c1 => ?_) (fun c1 => ?_)
    · have hf := ite_t c1 hf
      exact r_vret C hw hf dX12_next_294
    · have hf := ite_f c1 hf
      refine r_aload_n C hl (kx := 0) rfl rfl dX12_next_263 ?_
      refine r_aload_n C hl (kx := 0) rfl rfl dX12_next_264 ?_
      refine gf_12_92 C hw t0 dX12_next_265 ?_
      obtain ⟨r3, μ2, e4, hf⟩ := bn_some hf
      refine r_callVv C hw (K := [(0, (μ x0 6))]) ok12 t0 (c_X12_see l D b t0 e4) mi_X12_see in_X12_see se_X12_see kl_12_98 rfl rfl (lvh_sz hl) (by decide) (Kr := []) rfl (Nat.le_of_ble_eq_true rfl) dX12_next_268 (fun H locs hw => ?_)
      refine r_ldcS1_12 C dX12_next_271 ?_
      refine r_iload_n C hl (kx := 1) rfl rfl dX12_next_273 ?_
      obtain ⟨g5, hf⟩ := gd_some hf
      refine r_schar1 C hw g5 kl_12_88 (lvh_sz hl) (by decide) (Nat.le_of_ble_eq_true rfl) dX12_next_274 (fun H locs hw => ?_)
      refine r_icmp_ne C (tgt := 288) (by decide) dX12_next_277 (fun c6 => ?_) (fun c6 => ?_)
      · have hf := ite_f c6 hf
        exact w_X12_next_288 C _ ih hf t0 hw (lvh_sub hl [0, 1] rfl)
      · have hf := ite_t c6 hf
        refine r_aload_n C hl (kx := 0) rfl rfl dX12_next_280 ?_
        refine r_bipush C (by decide) dX12_next_281 ?_
        refine r_iload_n C hl (kx := 1) rfl rfl dX12_next_283 ?_
        refine r_iadd C dX12_next_284 ?_
        obtain ⟨μ7, e8, hf⟩ := nm_some hf
        refine pf_12_102 C hw t0 dX12_next_285 (fun H locs hw => ?_)
        rw [← e8] at hw
        exact w_X12_next_288 C _ ih hf t0 hw (lvh_sub hl [0, 1] rfl)
set_option maxHeartbeats 4000000 in
set_option maxRecDepth 20000 in
theorem w_X12_next_230 (C : Cx p s m args meth c D b cX12_next 2 RX12 (none)) {r : Int} {μ' : Mem} {s0 s1 : Int} {μ : Mem} {H : Heap} {locs : List Loc} {ls : Array Slot} (hf : f_X12_next_j230 s0 s1 μ = some (r, μ')) (hw : Hw D b μ s.heap H locs) (hl : lvh b ls 2 []) : W p l e (rm 8) s m args below meth c H locs 0 0 (QM below args s D b none μ') (F0 m 230 ls [.int (jI s1), rfv b s0]) := by
  unfold f_X12_next_j230 at hf
  obtain ⟨g1, hf⟩ := gd_some hf
  obtain ⟨μ2, e3, hf⟩ := nm_some hf
  refine pf_12_102 C hw g1 dX12_next_230 (fun H locs hw => ?_)
  rw [← e3] at hw
  refine r_goto C (tgt := 294) (by decide) dX12_next_233 ?_
  exact r_vret C hw hf dX12_next_294
set_option maxHeartbeats 4000000 in
set_option maxRecDepth 20000 in
theorem w_X12_next_196 (C : Cx p s m args meth c D b cX12_next 2 RX12 (none)) {r : Int} {μ' : Mem} (k146 : Int → Mem → Option (Int × Mem)) (h146 : ∀ (x0 : Int) (μ : Mem) (H : Heap) (locs : List Loc) (ls : Array Slot), k146 x0 μ = some (r, μ') → isK x0 12 → Hw D b μ s.heap H locs → lvh b ls 2 [(0, 2, x0)] → W p l e (rm 8) s m args below meth c H locs 0 0 (QM below args s D b none μ') (F0 m 146 ls [])) {x0 : Int} {μ : Mem} {H : Heap} {locs : List Loc} {ls : Array Slot} (hf : f_X12_next_j196 k146 x0 μ = some (r, μ')) (t0 : isK x0 12) (hw : Hw D b μ s.heap H locs) (hl : lvh b ls 2 [(0, 2, x0)]) : W p l e (rm 8) s m args below meth c H locs 0 0 (QM below args s D b none μ') (F0 m 196 ls []) := by
  unfold f_X12_next_j196 at hf
  refine r_aload_n C hl (kx := 0) rfl rfl dX12_next_196 ?_
  refine r_dup C (rfv_cat _ _) dX12_next_197 ?_
  refine gf_12_95 C hw t0 dX12_next_198 ?_
  refine r_iconst C dX12_next_201 ?_
  refine r_iadd C dX12_next_202 ?_
  obtain ⟨μ1, e2, hf⟩ := nm_some hf
  refine pf_12_95 C hw t0 dX12_next_203 (fun H locs hw => ?_)
  rw [← e2] at hw
  refine r_goto C (tgt := 146) (by decide) dX12_next_206 ?_
  exact h146 _ _ _ _ _ hf t0 hw (lvh_sub hl [0] rfl)
set_option maxHeartbeats 4000000 in
set_option maxRecDepth 20000 in
theorem w_X12_next_146 (C : Cx p s m args meth c D b cX12_next 2 RX12 (none)) {r : Int} {μ' : Mem} : ∀ (n : Nat) (x0 : Int) (μ : Mem) (H : Heap) (locs : List Loc) (ls : Array Slot), f_X12_next_w146 n x0 μ = some (r, μ') → isK x0 12 → Hw D b μ s.heap H locs → lvh b ls 2 [(0, 2, x0)] → W p l e (rm 8) s m args below meth c H locs 0 0 (QM below args s D b none μ') (F0 m 146 ls []) := by
  intro n
  induction n with
  | zero => intro x0 μ H locs ls hf; cases hf
  | succ n ih =>
    intro x0 μ H locs ls hf t0 hw hl
    rw [f_X12_next_w146.eq_2] at hf
    refine r_aload_n C hl (kx := 0) rfl rfl dX12_next_146 ?_
    refine r_aload_n C hl (kx := 0) rfl rfl dX12_next_147 ?_
    refine gf_12_95 C hw t0 dX12_next_148 ?_
    obtain ⟨r2, μ1, e3, hf⟩ := bn_some hf
    refine r_callVv C hw (K := [(0, (μ x0 7))]) ok12 t0 (c_X12_see l D b t0 e3) mi_X12_see in_X12_see se_X12_see kl_12_98 rfl rfl (lvh_sz hl) (by decide) (Kr := []) rfl (Nat.le_of_ble_eq_true rfl) dX12_next_151 (fun H locs hw => ?_)
    obtain ⟨r5, μ4, e6, hf⟩ := bn_some hf
    refine r_callSv C hw (K := [(0, r2)]) (c_X12_isDigit l D b e6) mi_X12_isDigit st_X12_isDigit kl_12_112 rfl rfl (lvh_sz hl) (by decide) (Kr := []) rfl (Nat.le_of_ble_eq_true rfl) dX12_next_154 (fun H locs hw => ?_)
    refine r_if_eq C (tgt := 209) (by decide) dX12_next_157 (fun c7 => ?_) (fun c7 => ?_)
    · have hf := ite_t c7 hf
      refine r_aload_n C hl (kx := 0) rfl rfl dX12_next_209 ?_
      refine r_aload_n C hl (kx := 0) rfl rfl dX12_next_210 ?_
      refine gf_12_95 C hw t0 dX12_next_211 ?_
      refine r_aload_n C hl (kx := 0) rfl rfl dX12_next_214 ?_
      refine gf_12_92 C hw t0 dX12_next_215 ?_
      refine r_isub C dX12_next_218 ?_
      refine r_iconst C dX12_next_219 ?_
      refine r_icmp_le C (tgt := 228) (by decide) dX12_next_220 (fun c8 => ?_) (fun c8 => ?_)
      · have hf := ite_t c8 hf
        refine r_bipush C (by decide) dX12_next_228 ?_
        exact w_X12_next_230 C hf hw (lvh_sub hl [] rfl)
      · have hf := ite_f c8 hf
        refine r_bipush C (by decide) dX12_next_223 ?_
        refine r_goto C (tgt := 230) (by decide) dX12_next_225 ?_
        exact w_X12_next_230 C hf hw (lvh_sub hl [] rfl)
    · have hf := ite_f c7 hf
      refine r_aload_n C hl (kx := 0) rfl rfl dX12_next_160 ?_
      refine gf_12_95 C hw t0 dX12_next_161 ?_
      refine r_aload_n C hl (kx := 0) rfl rfl dX12_next_164 ?_
      refine gf_12_92 C hw t0 dX12_next_165 ?_
      refine r_isub C dX12_next_168 ?_
      refine r_iconst C dX12_next_169 ?_
      refine r_icmp_ge C (tgt := 196) (by decide) dX12_next_170 (fun c9 => ?_) (fun c9 => ?_)
      · have hf := ite_t c9 hf
        exact w_X12_next_196 C _ ih hf t0 hw (lvh_sub hl [0] rfl)
      · have hf := ite_f c9 hf
        refine r_aload_n C hl (kx := 0) rfl rfl dX12_next_173 ?_
        refine r_bipush C (by decide) dX12_next_174 ?_
        refine r_aload_n C hl (kx := 0) rfl rfl dX12_next_176 ?_
        refine gf_12_115 C hw t0 dX12_next_177 ?_
        refine r_imul C dX12_next_180 ?_
        refine r_aload_n C hl (kx := 0) rfl rfl dX12_next_181 ?_
        refine r_aload_n C hl (kx := 0) rfl rfl dX12_next_182 ?_
        refine gf_12_95 C hw t0 dX12_next_183 ?_
        obtain ⟨r11, μ10, e12, hf⟩ := bn_some hf
        refine r_callVv C hw (K := [(0, (μ4 x0 7))]) ok12 t0 (c_X12_see l D b t0 e12) mi_X12_see in_X12_see se_X12_see kl_12_98 rfl rfl (lvh_sz hl) (by decide) (Kr := [(0, (10 * (μ4 x0 10))), (2, x0)]) rfl (Nat.le_of_ble_eq_true rfl) dX12_next_186 (fun H locs hw => ?_)
        refine r_iadd C dX12_next_189 ?_
        refine r_bipush C (by decide) dX12_next_190 ?_
        refine r_isub C dX12_next_192 ?_
        obtain ⟨μ13, e14, hf⟩ := nm_some hf
        refine pf_12_115 C hw t0 dX12_next_193 (fun H locs hw => ?_)
        rw [← e14] at hw
        exact w_X12_next_196 C _ ih hf t0 hw (lvh_sub hl [0] rfl)
set_option maxHeartbeats 4000000 in
set_option maxRecDepth 20000 in
theorem w_X12_next_89 (C : Cx p s m args meth c D b cX12_next 2 RX12 (none)) {r : Int} {μ' : Mem} : ∀ (n : Nat) (x0 : Int) (μ : Mem) (H : Heap) (locs : List Loc) (ls : Array Slot), f_X12_next_w89 n x0 μ = some (r, μ') → isK x0 12 → Hw D b μ s.heap H locs → lvh b ls 2 [(0, 2, x0)] → W p l e (rm 8) s m args below meth c H locs 0 0 (QM below args s D b none μ') (F0 m 89 ls []) := by
  intro n
  induction n with
  | zero => intro x0 μ H locs ls hf; cases hf
  | succ n ih =>
    intro x0 μ H locs ls hf t0 hw hl
    rw [f_X12_next_w89.eq_2] at hf
    refine r_aload_n C hl (kx := 0) rfl rfl dX12_next_89 ?_
    refine r_aload_n C hl (kx := 0) rfl rfl dX12_next_90 ?_
    refine gf_12_95 C hw t0 dX12_next_91 ?_
    obtain ⟨r2, μ1, e3, hf⟩ := bn_some hf
    refine r_callVv C hw (K := [(0, (μ x0 7))]) ok12 t0 (c_X12_see l D b t0 e3) mi_X12_see in_X12_see se_X12_see kl_12_98 rfl rfl (lvh_sz hl) (by decide) (Kr := []) rfl (Nat.le_of_ble_eq_true rfl) dX12_next_94 (fun H locs hw => ?_)
    obtain ⟨r5, μ4, e6, hf⟩ := bn_some hf
    refine r_callSv C hw (K := [(0, r2)]) (c_X12_isSmall l D b e6) mi_X12_isSmall st_X12_isSmall kl_12_105 rfl rfl (lvh_sz hl) (by decide) (Kr := []) rfl (Nat.le_of_ble_eq_true rfl) dX12_next_97 (fun H locs hw => ?_)
    refine r_if_eq C (tgt := 116) (by decide) dX12_next_100 (fun c7 => ?_) (fun c7 => ?_)
    · have hf := ite_t c7 hf
      refine r_aload_n C hl (kx := 0) rfl rfl dX12_next_116 ?_
      refine r_aload_n C hl (kx := 0) rfl rfl dX12_next_117 ?_
      obtain ⟨r9, μ8, e10, hf⟩ := bn_some hf
      refine r_callVv C hw (K := []) ok12 t0 (c_X12_keyAt l D b t0 e10) mi_X12_keyAt in_X12_keyAt se_X12_keyAt kl_12_109 rfl rfl (lvh_sz hl) (by decide) (Kr := [(2, x0)]) rfl (Nat.le_of_ble_eq_true rfl) dX12_next_118 (fun H locs hw => ?_)
      obtain ⟨μ11, e12, hf⟩ := nm_some hf
      refine pf_12_102 C hw t0 dX12_next_121 (fun H locs hw => ?_)
      rw [← e12] at hw
      refine r_goto C (tgt := 294) (by decide) dX12_next_124 ?_
      exact r_vret C hw hf dX12_next_294
    · have hf := ite_f c7 hf
      refine r_aload_n C hl (kx := 0) rfl rfl dX12_next_103 ?_
      refine r_dup C (rfv_cat _ _) dX12_next_104 ?_
      refine gf_12_95 C hw t0 dX12_next_105 ?_
      refine r_iconst C dX12_next_108 ?_
      refine r_iadd C dX12_next_109 ?_
      obtain ⟨μ13, e14, hf⟩ := nm_some hf
      refine pf_12_95 C hw t0 dX12_next_110 (fun H locs hw => ?_)
      rw [← e14] at hw
      refine r_goto C (tgt := 89) (by decide) dX12_next_113 ?_
      exact ih _ _ _ _ _ hf t0 hw (lvh_sub hl [0] rfl)
set_option maxHeartbeats 4000000 in
set_option maxRecDepth 20000 in
theorem w_X12_next_8 (C : Cx p s m args meth c D b cX12_next 2 RX12 (none)) {r : Int} {μ' : Mem} : ∀ (n : Nat) (x0 : Int) (μ : Mem) (H : Heap) (locs : List Loc) (ls : Array Slot), f_X12_next_w8 n x0 μ = some (r, μ') → isK x0 12 → Hw D b μ s.heap H locs → lvh b ls 2 [(0, 2, x0)] → W p l e (rm 8) s m args below meth c H locs 0 0 (QM below args s D b none μ') (F0 m 8 ls []) := by
  intro n
  induction n with
  | zero => intro x0 μ H locs ls hf; cases hf
  | succ n ih =>
    intro x0 μ H locs ls hf t0 hw hl
    rw [f_X12_next_w8.eq_2] at hf
    refine r_aload_n C hl (kx := 0) rfl rfl dX12_next_8 ?_
    refine r_aload_n C hl (kx := 0) rfl rfl dX12_next_9 ?_
    refine gf_12_92 C hw t0 dX12_next_10 ?_
    obtain ⟨r2, μ1, e3, hf⟩ := bn_some hf
    refine r_callVv C hw (K := [(0, (μ x0 6))]) ok12 t0 (c_X12_see l D b t0 e3) mi_X12_see in_X12_see se_X12_see kl_12_98 rfl rfl (lvh_sz hl) (by decide) (Kr := []) rfl (Nat.le_of_ble_eq_true rfl) dX12_next_13 (fun H locs hw => ?_)
    refine r_bipush C (by decide) dX12_next_16 ?_
    refine r_icmp_eq C (tgt := 34) (by decide) dX12_next_18 (fun c4 => ?_) (fun c4 => ?_)
    · have hf := ite_t c4 hf
      exact w_X12_next_34 C _ ih hf t0 hw (lvh_sub hl [0] rfl)
    · have hf := ite_f c4 hf
      refine r_aload_n C hl (kx := 0) rfl rfl dX12_next_21 ?_
      refine r_aload_n C hl (kx := 0) rfl rfl dX12_next_22 ?_
      refine gf_12_92 C hw t0 dX12_next_23 ?_
      obtain ⟨r6, μ5, e7, hf⟩ := bn_some hf
      refine r_callVv C hw (K := [(0, (μ1 x0 6))]) ok12 t0 (c_X12_see l D b t0 e7) mi_X12_see in_X12_see se_X12_see kl_12_98 rfl rfl (lvh_sz hl) (by decide) (Kr := []) rfl (Nat.le_of_ble_eq_true rfl) dX12_next_26 (fun H locs hw => ?_)
      refine r_bipush C (by decide) dX12_next_29 ?_
      refine r_icmp_ne C (tgt := 47) (by decide) dX12_next_31 (fun c8 => ?_) (fun c8 => ?_)
      · have hf := ite_f c8 hf
        refine r_aload_n C hl (kx := 0) rfl rfl dX12_next_47 ?_
        refine r_aload_n C hl (kx := 0) rfl rfl dX12_next_48 ?_
        refine gf_12_92 C hw t0 dX12_next_49 ?_
        obtain ⟨μ9, e10, hf⟩ := nm_some hf
        refine pf_12_95 C hw t0 dX12_next_52 (fun H locs hw => ?_)
        rw [← e10] at hw
        refine r_aload_n C hl (kx := 0) rfl rfl dX12_next_55 ?_
        refine gf_12_92 C hw t0 dX12_next_56 ?_
        refine r_aload_n C hl (kx := 0) rfl rfl dX12_next_59 ?_
        refine gf_12_77 C hw t0 dX12_next_60 ?_
        refine r_icmp_lt C (tgt := 75) (by decide) dX12_next_63 (fun c11 => ?_) (fun c11 => ?_)
        · have hf := ite_t c11 hf
          refine r_aload_n C hl (kx := 0) rfl rfl dX12_next_75 ?_
          refine r_aload_n C hl (kx := 0) rfl rfl dX12_next_76 ?_
          refine gf_12_92 C hw t0 dX12_next_77 ?_
          obtain ⟨r13, μ12, e14, hf⟩ := bn_some hf
          refine r_callVv C hw (K := [(0, (μ9 x0 6))]) ok12 t0 (c_X12_see l D b t0 e14) mi_X12_see in_X12_see se_X12_see kl_12_98 rfl rfl (lvh_sz hl) (by decide) (Kr := []) rfl (Nat.le_of_ble_eq_true rfl) dX12_next_80 (fun H locs hw => ?_)
          obtain ⟨r16, μ15, e17, hf⟩ := bn_some hf
          refine r_callSv C hw (K := [(0, r13)]) (c_X12_isSmall l D b e17) mi_X12_isSmall st_X12_isSmall kl_12_105 rfl rfl (lvh_sz hl) (by decide) (Kr := []) rfl (Nat.le_of_ble_eq_true rfl) dX12_next_83 (fun H locs hw => ?_)
          refine r_if_eq C (tgt := 127) (by decide) dX12_next_86 (fun c18 => ?_) (fun c18 => ?_)
          · have hf := ite_t c18 hf
            refine r_aload_n C hl (kx := 0) rfl rfl dX12_next_127 ?_
            refine r_aload_n C hl (kx := 0) rfl rfl dX12_next_128 ?_
            refine gf_12_92 C hw t0 dX12_next_129 ?_
            obtain ⟨r20, μ19, e21, hf⟩ := bn_some hf
            refine r_callVv C hw (K := [(0, (μ15 x0 6))]) ok12 t0 (c_X12_see l D b t0 e21) mi_X12_see in_X12_see se_X12_see kl_12_98 rfl rfl (lvh_sz hl) (by decide) (Kr := []) rfl (Nat.le_of_ble_eq_true rfl) dX12_next_132 (fun H locs hw => ?_)
            obtain ⟨r23, μ22, e24, hf⟩ := bn_some hf
            refine r_callSv C hw (K := [(0, r20)]) (c_X12_isDigit l D b e24) mi_X12_isDigit st_X12_isDigit kl_12_112 rfl rfl (lvh_sz hl) (by decide) (Kr := []) rfl (Nat.le_of_ble_eq_true rfl) dX12_next_135 (fun H locs hw => ?_)
            refine r_if_eq C (tgt := 236) (by decide) dX12_next_138 (fun c25 => ?_) (fun c25 => ?_)
            · have hf := ite_t c25 hf
              refine r_aload_n C hl (kx := 0) rfl rfl dX12_next_236 ?_
              refine r_dup C (rfv_cat _ _) dX12_next_237 ?_
              refine gf_12_95 C hw t0 dX12_next_238 ?_
              refine r_iconst C dX12_next_241 ?_
              refine r_iadd C dX12_next_242 ?_
              obtain ⟨μ26, e27, hf⟩ := nm_some hf
              refine pf_12_95 C hw t0 dX12_next_243 (fun H locs hw => ?_)
              rw [← e27] at hw
              refine r_aload_n C hl (kx := 0) rfl rfl dX12_next_246 ?_
              refine r_bipush C (by decide) dX12_next_247 ?_
              obtain ⟨μ28, e29, hf⟩ := nm_some hf
              refine pf_12_102 C hw t0 dX12_next_249 (fun H locs hw => ?_)
              rw [← e29] at hw
              refine r_iconst C dX12_next_252 ?_
              refine r_istore_n C hl (by decide) (L' := [(1, 0, 0), (0, 2, x0)]) rfl rfl dX12_next_253 (fun ls hl => ?_)
              exact w_X12_next_254 C FU _ _ _ _ _ _ hf t0 hw (lvh_sub hl [1, 0] rfl)
            · have hf := ite_f c25 hf
              refine r_aload_n C hl (kx := 0) rfl rfl dX12_next_141 ?_
              refine r_iconst C dX12_next_142 ?_
              obtain ⟨μ30, e31, hf⟩ := nm_some hf
              refine pf_12_115 C hw t0 dX12_next_143 (fun H locs hw => ?_)
              rw [← e31] at hw
              exact w_X12_next_146 C FU _ _ _ _ _ hf t0 hw (lvh_sub hl [0] rfl)
          · have hf := ite_f c18 hf
            exact w_X12_next_89 C FU _ _ _ _ _ hf t0 hw (lvh_sub hl [0] rfl)
        · have hf := ite_f c11 hf
          refine r_aload_n C hl (kx := 0) rfl rfl dX12_next_66 ?_
          refine r_bipush C (by decide) dX12_next_67 ?_
          obtain ⟨μ32, e33, hf⟩ := nm_some hf
          refine pf_12_102 C hw t0 dX12_next_69 (fun H locs hw => ?_)
          rw [← e33] at hw
          refine r_goto C (tgt := 294) (by decide) dX12_next_72 ?_
          exact r_vret C hw hf dX12_next_294
      · have hf := ite_t c8 hf
        exact w_X12_next_34 C _ ih hf t0 hw (lvh_sub hl [0] rfl)
set_option maxHeartbeats 4000000 in
set_option maxRecDepth 20000 in
theorem w_X12_next_0 (C : Cx p s m args meth c D b cX12_next 2 RX12 (none)) {r : Int} {μ' : Mem} {x0 : Int} {μ : Mem} {H : Heap} {locs : List Loc} {ls : Array Slot} (hf : f_X12_next x0 μ = some (r, μ')) (t0 : isK x0 12) (hw : Hw D b μ s.heap H locs) (hl : lvh b ls 2 [(0, 2, x0)]) : W p l e (rm 8) s m args below meth c H locs 0 0 (QM below args s D b none μ') (F0 m 0 ls []) := by
  unfold f_X12_next at hf
  refine r_aload_n C hl (kx := 0) rfl rfl dX12_next_0 ?_
  refine r_aload_n C hl (kx := 0) rfl rfl dX12_next_1 ?_
  refine gf_12_95 C hw t0 dX12_next_2 ?_
  obtain ⟨μ1, e2, hf⟩ := nm_some hf
  refine pf_12_92 C hw t0 dX12_next_5 (fun H locs hw => ?_)
  rw [← e2] at hw
  exact w_X12_next_8 C FU _ _ _ _ _ hf t0 hw (lvh_sub hl [0] rfl)
theorem c_X12_next (l : Launch) (D : Ds) (b : Nat) {x0 : Int} {μ μ' : Mem} {r : Int} (t0 : isK x0 12) (hf : f_X12_next x0 μ = some (r, μ')) : Ctr l D b yX12_next cX12_next 2 (none) 8 [(2, x0)] μ none μ' := by
  refine Ctr.of (by decide +kernel) (Nat.le_of_ble_eq_true rfl) ?_
  intro p e s m below meth c C hw ls hl
  exact w_X12_next_0 C hf t0 hw hl
set_option maxHeartbeats 4000000 in
set_option maxRecDepth 20000 in
theorem w_X12_fails_23 (C : Cx p s m args meth c D b cX12_fails 2 RX12 (none)) {r : Int} {μ' : Mem} {x0 s0 s1 : Int} {μ : Mem} {H : Heap} {locs : List Loc} {ls : Array Slot} (hf : f_X12_fails_j23 x0 s0 s1 μ = some (r, μ')) (t0 : isK x0 12) (hw : Hw D b μ s.heap H locs) (hl : lvh b ls 2 [(0, 2, x0)]) : W p l e (rm 0) s m args below meth c H locs 0 0 (QM below args s D b none μ') (F0 m 23 ls [.int (jI s1), rfv b s0]) := by
  unfold f_X12_fails_j23 at hf
  obtain ⟨g1, hf⟩ := gd_some hf
  obtain ⟨μ2, e3, hf⟩ := nm_some hf
  refine pf_12_120 C hw g1 dX12_fails_23 (fun H locs hw => ?_)
  rw [← e3] at hw
  refine r_aload_n C hl (kx := 0) rfl rfl dX12_fails_26 ?_
  refine r_aload_n C hl (kx := 0) rfl rfl dX12_fails_27 ?_
  refine gf_12_92 C hw t0 dX12_fails_28 ?_
  obtain ⟨μ4, e5, hf⟩ := nm_some hf
  refine pf_12_123 C hw t0 dX12_fails_31 (fun H locs hw => ?_)
  rw [← e5] at hw
  exact r_vret C hw hf dX12_fails_34
set_option maxHeartbeats 4000000 in
set_option maxRecDepth 20000 in
theorem w_X12_fails_0 (C : Cx p s m args meth c D b cX12_fails 2 RX12 (none)) {r : Int} {μ' : Mem} {x0 x1 : Int} {μ : Mem} {H : Heap} {locs : List Loc} {ls : Array Slot} (hf : f_X12_fails x0 x1 μ = some (r, μ')) (t0 : isK x0 12) (hw : Hw D b μ s.heap H locs) (hl : lvh b ls 2 [(0, 2, x0), (1, 0, x1)]) : W p l e (rm 0) s m args below meth c H locs 0 0 (QM below args s D b none μ') (F0 m 0 ls []) := by
  unfold f_X12_fails at hf
  refine r_aload_n C hl (kx := 0) rfl rfl dX12_fails_0 ?_
  refine gf_12_120 C hw t0 dX12_fails_1 ?_
  refine r_if_eq C (tgt := 8) (by decide) dX12_fails_4 (fun c1 => ?_) (fun c1 => ?_)
  · have hf := ite_t c1 hf
    refine r_aload_n C hl (kx := 0) rfl rfl dX12_fails_8 ?_
    refine r_aload_n C hl (kx := 0) rfl rfl dX12_fails_9 ?_
    refine gf_12_102 C hw t0 dX12_fails_10 ?_
    refine r_bipush C (by decide) dX12_fails_13 ?_
    refine r_icmp_ne C (tgt := 22) (by decide) dX12_fails_15 (fun c2 => ?_) (fun c2 => ?_)
    · have hf := ite_f c2 hf
      refine r_iload_n C hl (kx := 1) rfl rfl dX12_fails_22 ?_
      exact w_X12_fails_23 C hf t0 hw (lvh_sub hl [0] rfl)
    · have hf := ite_t c2 hf
      refine r_iconst C dX12_fails_18 ?_
      refine r_goto C (tgt := 23) (by decide) dX12_fails_19 ?_
      exact w_X12_fails_23 C hf t0 hw (lvh_sub hl [0] rfl)
  · have hf := ite_f c1 hf
    exact r_vret C hw hf dX12_fails_7
theorem c_X12_fails (l : Launch) (D : Ds) (b : Nat) {x0 x1 : Int} {μ μ' : Mem} {r : Int} (t0 : isK x0 12) (hf : f_X12_fails x0 x1 μ = some (r, μ')) : Ctr l D b yX12_fails cX12_fails 2 (none) 0 [(2, x0), (0, x1)] μ none μ' := by
  refine Ctr.of (by decide +kernel) (Nat.le_of_ble_eq_true rfl) ?_
  intro p e s m below meth c C hw ls hl
  exact w_X12_fails_0 C hf t0 hw hl
set_option maxHeartbeats 4000000 in
set_option maxRecDepth 20000 in
theorem w_X12_is_0 (C : Cx p s m args meth c D b cX12_is 2 RX12 (some .boolean)) {r : Int} {μ' : Mem} {x0 x1 : Int} {μ : Mem} {H : Heap} {locs : List Loc} {ls : Array Slot} (hf : f_X12_is x0 x1 μ = some (r, μ')) (t0 : isK x0 12) (hw : Hw D b μ s.heap H locs) (hl : lvh b ls 2 [(0, 2, x0), (1, 0, x1)]) : W p l e (rm 0) s m args below meth c H locs 0 0 (QM below args s D b (some (.int (jI r))) μ') (F0 m 0 ls []) := by
  unfold f_X12_is at hf
  refine r_aload_n C hl (kx := 0) rfl rfl dX12_is_0 ?_
  refine gf_12_120 C hw t0 dX12_is_1 ?_
  refine r_if_ne C (tgt := 19) (by decide) dX12_is_4 (fun c1 => ?_) (fun c1 => ?_)
  · have hf := ite_f c1 hf
    refine r_iconst C dX12_is_19 ?_
    exact r_zret C hw (by decide) hf dX12_is_20
  · have hf := ite_t c1 hf
    refine r_aload_n C hl (kx := 0) rfl rfl dX12_is_7 ?_
    refine gf_12_102 C hw t0 dX12_is_8 ?_
    refine r_iload_n C hl (kx := 1) rfl rfl dX12_is_11 ?_
    refine r_icmp_ne C (tgt := 19) (by decide) dX12_is_12 (fun c2 => ?_) (fun c2 => ?_)
    · have hf := ite_f c2 hf
      refine r_iconst C dX12_is_19 ?_
      exact r_zret C hw (by decide) hf dX12_is_20
    · have hf := ite_t c2 hf
      refine r_iconst C dX12_is_15 ?_
      refine r_goto C (tgt := 20) (by decide) dX12_is_16 ?_
      exact r_zret C hw (by decide) hf dX12_is_20
theorem c_X12_is (l : Launch) (D : Ds) (b : Nat) {x0 x1 : Int} {μ μ' : Mem} {r : Int} (t0 : isK x0 12) (hf : f_X12_is x0 x1 μ = some (r, μ')) : Ctr l D b yX12_is cX12_is 2 (some .boolean) 0 [(2, x0), (0, x1)] μ (some (.int (jI r))) μ' := by
  refine Ctr.of (by decide +kernel) (Nat.le_of_ble_eq_true rfl) ?_
  intro p e s m below meth c C hw ls hl
  exact w_X12_is_0 C hf t0 hw hl
set_option maxHeartbeats 4000000 in
set_option maxRecDepth 20000 in
theorem w_X12_eats_0 (C : Cx p s m args meth c D b cX12_eats 2 RX12 (some .boolean)) {r : Int} {μ' : Mem} {x0 x1 : Int} {μ : Mem} {H : Heap} {locs : List Loc} {ls : Array Slot} (hf : f_X12_eats x0 x1 μ = some (r, μ')) (t0 : isK x0 12) (hw : Hw D b μ s.heap H locs) (hl : lvh b ls 2 [(0, 2, x0), (1, 0, x1)]) : W p l e (rm 9) s m args below meth c H locs 0 0 (QM below args s D b (some (.int (jI r))) μ') (F0 m 0 ls []) := by
  unfold f_X12_eats at hf
  refine r_aload_n C hl (kx := 0) rfl rfl dX12_eats_0 ?_
  refine r_iload_n C hl (kx := 1) rfl rfl dX12_eats_1 ?_
  obtain ⟨r2, μ1, e3, hf⟩ := bn_some hf
  refine r_callVv C hw (K := [(0, x1)]) ok12 t0 (c_X12_is l D b t0 e3) mi_X12_is in_X12_is se_X12_is kl_12_126 rfl rfl (lvh_sz hl) (by decide) (Kr := []) rfl (Nat.le_of_ble_eq_true rfl) dX12_eats_2 (fun H locs hw => ?_)
  refine r_if_ne C (tgt := 10) (by decide) dX12_eats_5 (fun c4 => ?_) (fun c4 => ?_)
  · have hf := ite_f c4 hf
    refine r_aload_n C hl (kx := 0) rfl rfl dX12_eats_10 ?_
    obtain ⟨r6, μ5, e7, hf⟩ := bn_some hf
    refine r_callVn C hw (K := []) ok12 t0 (c_X12_next l D b t0 e7) mi_X12_next in_X12_next se_X12_next kl_12_129 rfl rfl (lvh_sz hl) (by decide) (Kr := []) rfl (Nat.le_of_ble_eq_true rfl) dX12_eats_11 (fun H locs hw => ?_)
    refine r_iconst C dX12_eats_14 ?_
    exact r_zret C hw (by decide) hf dX12_eats_15
  · have hf := ite_t c4 hf
    refine r_iconst C dX12_eats_8 ?_
    exact r_zret C hw (by decide) hf dX12_eats_9
theorem c_X12_eats (l : Launch) (D : Ds) (b : Nat) {x0 x1 : Int} {μ μ' : Mem} {r : Int} (t0 : isK x0 12) (hf : f_X12_eats x0 x1 μ = some (r, μ')) : Ctr l D b yX12_eats cX12_eats 2 (some .boolean) 9 [(2, x0), (0, x1)] μ (some (.int (jI r))) μ' := by
  refine Ctr.of (by decide +kernel) (Nat.le_of_ble_eq_true rfl) ?_
  intro p e s m below meth c C hw ls hl
  exact w_X12_eats_0 C hf t0 hw hl
set_option maxHeartbeats 4000000 in
set_option maxRecDepth 20000 in
theorem w_X12_takes_37 (C : Cx p s m args meth c D b cX12_takes 4 RX12 (some .int)) {r : Int} {μ' : Mem} {x0 : Int} {μ : Mem} {H : Heap} {locs : List Loc} {ls : Array Slot} (hf : f_X12_takes_j37 x0 μ = some (r, μ')) (t0 : isK x0 12) (hw : Hw D b μ s.heap H locs) (hl : lvh b ls 4 [(0, 2, x0)]) : W p l e (rm 9) s m args below meth c H locs 0 0 (QM below args s D b (some (.int (jI r))) μ') (F0 m 37 ls []) := by
  unfold f_X12_takes_j37 at hf
  refine r_aload_n C hl (kx := 0) rfl rfl dX12_takes_37 ?_
  refine gf_12_115 C hw t0 dX12_takes_38 ?_
  obtain ⟨v1, e2, hf⟩ := nm_some hf
  refine top_i e2 ?_
  refine r_istore_n C hl (by decide) (L' := [(3, 0, v1), (0, 2, x0)]) rfl rfl dX12_takes_41 (fun ls hl => ?_)
  refine r_aload_n C hl (kx := 1) rfl rfl dX12_takes_42 ?_
  refine gf_12_120 C hw t0 dX12_takes_43 ?_
  refine r_if_ne C (tgt := 53) (by decide) dX12_takes_46 (fun c3 => ?_) (fun c3 => ?_)
  · have hf := ite_f c3 hf
    refine r_iload_n C hl (kx := 0) rfl rfl dX12_takes_53 ?_
    exact r_iret C hw hf dX12_takes_54
  · have hf := ite_t c3 hf
    refine r_aload_n C hl (kx := 1) rfl rfl dX12_takes_49 ?_
    obtain ⟨r5, μ4, e6, hf⟩ := bn_some hf
    refine r_callVn C hw (K := []) ok12 t0 (c_X12_next l D b t0 e6) mi_X12_next in_X12_next se_X12_next kl_12_129 rfl rfl (lvh_sz hl) (by decide) (Kr := []) rfl (Nat.le_of_ble_eq_true rfl) dX12_takes_50 (fun H locs hw => ?_)
    refine r_iload_n C hl (kx := 0) rfl rfl dX12_takes_53 ?_
    exact r_iret C hw hf dX12_takes_54
set_option maxHeartbeats 4000000 in
set_option maxRecDepth 20000 in
theorem w_X12_takes_0 (C : Cx p s m args meth c D b cX12_takes 4 RX12 (some .int)) {r : Int} {μ' : Mem} {x0 x1 x2 : Int} {μ : Mem} {H : Heap} {locs : List Loc} {ls : Array Slot} (hf : f_X12_takes x0 x1 x2 μ = some (r, μ')) (t0 : isK x0 12) (hw : Hw D b μ s.heap H locs) (hl : lvh b ls 4 [(0, 2, x0), (1, 0, x1), (2, 0, x2)]) : W p l e (rm 9) s m args below meth c H locs 0 0 (QM below args s D b (some (.int (jI r))) μ') (F0 m 0 ls []) := by
  unfold f_X12_takes at hf
  refine r_aload_n C hl (kx := 0) rfl rfl dX12_takes_0 ?_
  refine r_bipush C (by decide) dX12_takes_1 ?_
  obtain ⟨r2, μ1, e3, hf⟩ := bn_some hf
  refine r_callVv C hw (K := [(0, 23)]) ok12 t0 (c_X12_is l D b t0 e3) mi_X12_is in_X12_is se_X12_is kl_12_126 rfl rfl (lvh_sz hl) (by decide) (Kr := []) rfl (Nat.le_of_ble_eq_true rfl) dX12_takes_3 (fun H locs hw => ?_)
  refine r_if_ne C (tgt := 17) (by decide) dX12_takes_6 (fun c4 => ?_) (fun c4 => ?_)
  · have hf := ite_f c4 hf
    refine r_aload_n C hl (kx := 0) rfl rfl dX12_takes_17 ?_
    refine gf_12_115 C hw t0 dX12_takes_18 ?_
    refine r_i2l C dX12_takes_21 ?_
    refine r_iload_n C hl (kx := 1) rfl rfl dX12_takes_22 ?_
    refine r_i2l C dX12_takes_23 ?_
    refine r_iload_n C hl (kx := 2) rfl rfl dX12_takes_24 ?_
    refine r_i2l C dX12_takes_25 ?_
    obtain ⟨r6, μ5, e7, hf⟩ := bn_some hf
    refine r_callSv C hw (K := [(1, (nrm (μ1 x0 10))), (1, (nrm x1)), (1, (nrm x2))]) (c_X12_within l D b e7) mi_X12_within st_X12_within kl_12_136 rfl rfl (lvh_sz hl) (by decide) (Kr := []) rfl (Nat.le_of_ble_eq_true rfl) dX12_takes_26 (fun H locs hw => ?_)
    refine r_if_ne C (tgt := 37) (by decide) dX12_takes_29 (fun c8 => ?_) (fun c8 => ?_)
    · have hf := ite_f c8 hf
      exact w_X12_takes_37 C hf t0 hw (lvh_sub hl [0] rfl)
    · have hf := ite_t c8 hf
      refine r_aload_n C hl (kx := 0) rfl rfl dX12_takes_32 ?_
      refine r_iconst C dX12_takes_33 ?_
      obtain ⟨r10, μ9, e11, hf⟩ := bn_some hf
      refine r_callVn C hw (K := [(0, 3)]) ok12 t0 (c_X12_fails l D b t0 e11) mi_X12_fails in_X12_fails se_X12_fails kl_12_132 rfl rfl (lvh_sz hl) (by decide) (Kr := []) rfl (Nat.le_of_ble_eq_true rfl) dX12_takes_34 (fun H locs hw => ?_)
      exact w_X12_takes_37 C hf t0 hw (lvh_sub hl [0] rfl)
  · have hf := ite_t c4 hf
    refine r_aload_n C hl (kx := 0) rfl rfl dX12_takes_9 ?_
    refine r_iconst C dX12_takes_10 ?_
    obtain ⟨r13, μ12, e14, hf⟩ := bn_some hf
    refine r_callVn C hw (K := [(0, 2)]) ok12 t0 (c_X12_fails l D b t0 e14) mi_X12_fails in_X12_fails se_X12_fails kl_12_132 rfl rfl (lvh_sz hl) (by decide) (Kr := []) rfl (Nat.le_of_ble_eq_true rfl) dX12_takes_11 (fun H locs hw => ?_)
    refine r_goto C (tgt := 37) (by decide) dX12_takes_14 ?_
    exact w_X12_takes_37 C hf t0 hw (lvh_sub hl [0] rfl)
theorem c_X12_takes (l : Launch) (D : Ds) (b : Nat) {x0 x1 x2 : Int} {μ μ' : Mem} {r : Int} (t0 : isK x0 12) (hf : f_X12_takes x0 x1 x2 μ = some (r, μ')) : Ctr l D b yX12_takes cX12_takes 4 (some .int) 9 [(2, x0), (0, x1), (0, x2)] μ (some (.int (jI r))) μ' := by
  refine Ctr.of (by decide +kernel) (Nat.le_of_ble_eq_true rfl) ?_
  intro p e s m below meth c C hw ls hl
  exact w_X12_takes_0 C hf t0 hw hl
set_option maxHeartbeats 4000000 in
set_option maxRecDepth 20000 in
theorem w_X12_isIn_0 (C : Cx p s m args meth c D b cX12_isIn 3 RX12 (some .boolean)) {r : Int} {μ' : Mem} {x0 x2 : Int} {μ : Mem} {H : Heap} {locs : List Loc} {ls : Array Slot} (hf : f_X12_isIn x0 x2 μ = some (r, μ')) (hw : Hw D b μ s.heap H locs) (hl : lvh b ls 3 [(0, 1, x0), (2, 0, x2)]) : W p l e (rm 0) s m args below meth c H locs 0 0 (QM below args s D b (some (.int (jI r))) μ') (F0 m 0 ls []) := by
  unfold f_X12_isIn at hf
  refine r_lload_n C hl (kx := 0) rfl rfl dX12_isIn_0 ?_
  refine r_iload_n C hl (kx := 1) rfl rfl dX12_isIn_1 ?_
  refine r_lshr C dX12_isIn_2 ?_
  refine r_lconst C (z := 1) (by decide) dX12_isIn_3 ?_
  refine r_land C dX12_isIn_4 ?_
  refine r_lconst C (z := 1) (by decide) dX12_isIn_5 ?_
  refine r_lcmp C dX12_isIn_6 ?_
  refine r_if_ne C (tgt := 14) (by decide) dX12_isIn_7 (fun c1 => ?_) (fun c1 => ?_)
  · have hf := ite_f c1 hf
    refine r_iconst C dX12_isIn_14 ?_
    exact r_zret C hw (by decide) hf dX12_isIn_15
  · have hf := ite_t c1 hf
    refine r_iconst C dX12_isIn_10 ?_
    refine r_goto C (tgt := 15) (by decide) dX12_isIn_11 ?_
    exact r_zret C hw (by decide) hf dX12_isIn_15
theorem c_X12_isIn (l : Launch) (D : Ds) (b : Nat) {x0 x2 : Int} {μ μ' : Mem} {r : Int} (hf : f_X12_isIn x0 x2 μ = some (r, μ')) : Ctr l D b yX12_isIn cX12_isIn 3 (some .boolean) 0 [(1, x0), (0, x2)] μ (some (.int (jI r))) μ' := by
  refine Ctr.of (by decide +kernel) (Nat.le_of_ble_eq_true rfl) ?_
  intro p e s m below meth c C hw ls hl
  exact w_X12_isIn_0 C hf hw hl
set_option maxHeartbeats 4000000 in
set_option maxRecDepth 20000 in
theorem w_X12_wordOf_0 (C : Cx p s m args meth c D b cX12_wordOf 2 RX12 (some .int)) {r : Int} {μ' : Mem} {x0 x1 : Int} {μ : Mem} {H : Heap} {locs : List Loc} {ls : Array Slot} (hf : f_X12_wordOf x0 x1 μ = some (r, μ')) (t0 : isK x0 12) (hw : Hw D b μ s.heap H locs) (hl : lvh b ls 2 [(0, 2, x0), (1, 0, x1)]) : W p l e (rm 0) s m args below meth c H locs 0 0 (QM below args s D b (some (.int (jI r))) μ') (F0 m 0 ls []) := by
  unfold f_X12_wordOf at hf
  refine r_iload_n C hl (kx := 1) rfl rfl dX12_wordOf_0 ?_
  rcases Decidable.em (nrm x1 = 2) with c1 | c1
  · have hf := ite_t c1 hf
    refine r_tabIn C (tgt := 60) c1 (by decide) (by decide) rfl (by decide) dX12_wordOf_1 ?_
    refine r_iconst C dX12_wordOf_60 ?_
    exact r_iret C hw hf dX12_wordOf_61
  have hf := ite_f c1 hf
  rcases Decidable.em (nrm x1 = 3) with c2 | c2
  · have hf := ite_t c2 hf
    refine r_tabIn C (tgt := 62) c2 (by decide) (by decide) rfl (by decide) dX12_wordOf_1 ?_
    refine r_iconst C dX12_wordOf_62 ?_
    exact r_iret C hw hf dX12_wordOf_63
  have hf := ite_f c2 hf
  rcases Decidable.em (nrm x1 = 4) with c3 | c3
  · have hf := ite_t c3 hf
    refine r_tabIn C (tgt := 64) c3 (by decide) (by decide) rfl (by decide) dX12_wordOf_1 ?_
    refine r_iconst C dX12_wordOf_64 ?_
    exact r_iret C hw hf dX12_wordOf_65
  have hf := ite_f c3 hf
  rcases Decidable.em (nrm x1 = 8) with c4 | c4
  · have hf := ite_t c4 hf
    refine r_tabIn C (tgt := 66) c4 (by decide) (by decide) rfl (by decide) dX12_wordOf_1 ?_
    refine r_iconst C dX12_wordOf_66 ?_
    exact r_iret C hw hf dX12_wordOf_67
  have hf := ite_f c4 hf
  rcases Decidable.em (nrm x1 = 11) with c5 | c5
  · have hf := ite_t c5 hf
    refine r_tabIn C (tgt := 70) c5 (by decide) (by decide) rfl (by decide) dX12_wordOf_1 ?_
    refine r_aload_n C hl (kx := 0) rfl rfl dX12_wordOf_70 ?_
    refine gf_12_140 C hw t0 dX12_wordOf_71 ?_
    refine r_iconst C dX12_wordOf_74 ?_
    refine r_icmp_ne C (tgt := 82) (by decide) dX12_wordOf_75 (fun c6 => ?_) (fun c6 => ?_)
    · have hf := ite_f c6 hf
      refine r_iconst C dX12_wordOf_82 ?_
      exact r_iret C hw hf dX12_wordOf_83
    · have hf := ite_t c6 hf
      refine r_iconst C dX12_wordOf_78 ?_
      refine r_goto C (tgt := 83) (by decide) dX12_wordOf_79 ?_
      exact r_iret C hw hf dX12_wordOf_83
  have hf := ite_f c5 hf
  rcases Decidable.em (nrm x1 = 12) with c7 | c7
  · have hf := ite_t c7 hf
    refine r_tabIn C (tgt := 68) c7 (by decide) (by decide) rfl (by decide) dX12_wordOf_1 ?_
    refine r_iconst C dX12_wordOf_68 ?_
    exact r_iret C hw hf dX12_wordOf_69
  have hf := ite_f c7 hf
  have hdef : W p l e (rm 0) s m args below meth c H locs 0 0 (QM below args s D b (some (.int (jI r))) μ') (F0 m 84 ls []) := by
    refine r_iconst C dX12_wordOf_84 ?_
    exact r_iret C hw hf dX12_wordOf_85
  rcases Decidable.em (nrm x1 = 5) with c8 | c8
  · exact r_tabIn C (tgt := 84) c8 (by decide) (by decide) rfl (by decide) dX12_wordOf_1 hdef
  rcases Decidable.em (nrm x1 = 6) with c9 | c9
  · exact r_tabIn C (tgt := 84) c9 (by decide) (by decide) rfl (by decide) dX12_wordOf_1 hdef
  rcases Decidable.em (nrm x1 = 7) with c10 | c10
  · exact r_tabIn C (tgt := 84) c10 (by decide) (by decide) rfl (by decide) dX12_wordOf_1 hdef
  rcases Decidable.em (nrm x1 = 9) with c11 | c11
  · exact r_tabIn C (tgt := 84) c11 (by decide) (by decide) rfl (by decide) dX12_wordOf_1 hdef
  rcases Decidable.em (nrm x1 = 10) with c12 | c12
  · exact r_tabIn C (tgt := 84) c12 (by decide) (by decide) rfl (by decide) dX12_wordOf_1 hdef
  exact r_tabOut C (tgt := 84) (by omega) (by decide) dX12_wordOf_1 hdef
theorem c_X12_wordOf (l : Launch) (D : Ds) (b : Nat) {x0 x1 : Int} {μ μ' : Mem} {r : Int} (t0 : isK x0 12) (hf : f_X12_wordOf x0 x1 μ = some (r, μ')) : Ctr l D b yX12_wordOf cX12_wordOf 2 (some .int) 0 [(2, x0), (0, x1)] μ (some (.int (jI r))) μ' := by
  refine Ctr.of (by decide +kernel) (Nat.le_of_ble_eq_true rfl) ?_
  intro p e s m below meth c C hw ls hl
  exact w_X12_wordOf_0 C hf t0 hw hl
set_option maxHeartbeats 4000000 in
set_option maxRecDepth 20000 in
theorem w_X12_codes_0 (C : Cx p s m args meth c D b cX12_codes 2 RX12 (none)) {r : Int} {μ' : Mem} {x0 x1 : Int} {μ : Mem} {H : Heap} {locs : List Loc} {ls : Array Slot} (hf : f_X12_codes x0 x1 μ = some (r, μ')) (t0 : isK x0 12) (hw : Hw D b μ s.heap H locs) (hl : lvh b ls 2 [(0, 2, x0), (1, 0, x1)]) : W p l e (rm 0) s m args below meth c H locs 0 0 (QM below args s D b none μ') (F0 m 0 ls []) := by
  unfold f_X12_codes at hf
  refine r_aload_n C hl (kx := 0) rfl rfl dX12_codes_0 ?_
  refine gf_12_120 C hw t0 dX12_codes_1 ?_
  refine r_if_eq C (tgt := 8) (by decide) dX12_codes_4 (fun c1 => ?_) (fun c1 => ?_)
  · have hf := ite_t c1 hf
    refine r_aload_n C hl (kx := 0) rfl rfl dX12_codes_8 ?_
    refine gf_12_24 C hw t0 dX12_codes_9 ?_
    refine r_sipush C (by decide) dX12_codes_12 ?_
    refine r_aload_n C hl (kx := 0) rfl rfl dX12_codes_15 ?_
    refine gf_12_24 C hw t0 dX12_codes_16 ?_
    refine r_sipush C (by decide) dX12_codes_19 ?_
    refine r_iald C hw (n := 1100) (ow_12_4 t0) (j := 199) (by decide) (by decide) (by decide) dX12_codes_22 ?_
    refine r_iadd C dX12_codes_23 ?_
    refine r_iload_n C hl (kx := 1) rfl rfl dX12_codes_24 ?_
    obtain ⟨g4, hf⟩ := gd_some hf
    obtain ⟨μ2, e3, hf⟩ := nm_some hf
    refine r_iast C hw (n := 1100) (ow_12_4 t0) (j := (nrm (200 + (μ (x0 + 4) 199)))) rfl g4 (by decide) dX12_codes_25 (fun H locs hw => ?_)
    rw [← e3] at hw
    refine r_aload_n C hl (kx := 0) rfl rfl dX12_codes_26 ?_
    refine gf_12_24 C hw t0 dX12_codes_27 ?_
    refine r_sipush C (by decide) dX12_codes_30 ?_
    refine r_dup2 C rfl (rfv_cat _ _) dX12_codes_33 ?_
    refine r_iald C hw (n := 1100) (ow_12_4 t0) (j := 199) (by decide) (by decide) (by decide) dX12_codes_34 ?_
    refine r_iconst C dX12_codes_35 ?_
    refine r_iadd C dX12_codes_36 ?_
    obtain ⟨μ5, e6, hf⟩ := nm_some hf
    refine r_iast C hw (n := 1100) (ow_12_4 t0) (j := 199) (by decide) (by decide) (by decide) dX12_codes_37 (fun H locs hw => ?_)
    rw [← e6] at hw
    exact r_vret C hw hf dX12_codes_38
  · have hf := ite_f c1 hf
    exact r_vret C hw hf dX12_codes_7
theorem c_X12_codes (l : Launch) (D : Ds) (b : Nat) {x0 x1 : Int} {μ μ' : Mem} {r : Int} (t0 : isK x0 12) (hf : f_X12_codes x0 x1 μ = some (r, μ')) : Ctr l D b yX12_codes cX12_codes 2 (none) 0 [(2, x0), (0, x1)] μ none μ' := by
  refine Ctr.of (by decide +kernel) (Nat.le_of_ble_eq_true rfl) ?_
  intro p e s m below meth c C hw ls hl
  exact w_X12_codes_0 C hf t0 hw hl
set_option maxHeartbeats 4000000 in
set_option maxRecDepth 20000 in
theorem w_X12_goesIn_22 (C : Cx p s m args meth c D b cX12_goesIn 2 RX12 (some .boolean)) {r : Int} {μ' : Mem} {x0 : Int} {μ : Mem} {H : Heap} {locs : List Loc} {ls : Array Slot} (hf : f_X12_goesIn_j22 x0 μ = some (r, μ')) (t0 : isK x0 12) (hw : Hw D b μ s.heap H locs) (hl : lvh b ls 2 [(0, 2, x0)]) : W p l e (rm 9) s m args below meth c H locs 0 0 (QM below args s D b (some (.int (jI r))) μ') (F0 m 22 ls []) := by
  unfold f_X12_goesIn_j22 at hf
  refine r_aload_n C hl (kx := 0) rfl rfl dX12_goesIn_22 ?_
  refine gf_12_120 C hw t0 dX12_goesIn_23 ?_
  refine r_if_ne C (tgt := 33) (by decide) dX12_goesIn_26 (fun c1 => ?_) (fun c1 => ?_)
  · have hf := ite_f c1 hf
    refine r_iconst C dX12_goesIn_33 ?_
    exact r_zret C hw (by decide) hf dX12_goesIn_34
  · have hf := ite_t c1 hf
    refine r_iconst C dX12_goesIn_29 ?_
    refine r_goto C (tgt := 34) (by decide) dX12_goesIn_30 ?_
    exact r_zret C hw (by decide) hf dX12_goesIn_34
set_option maxHeartbeats 4000000 in
set_option maxRecDepth 20000 in
theorem w_X12_goesIn_11 (C : Cx p s m args meth c D b cX12_goesIn 2 RX12 (some .boolean)) {r : Int} {μ' : Mem} {x0 : Int} {μ : Mem} {H : Heap} {locs : List Loc} {ls : Array Slot} (hf : f_X12_goesIn_j11 x0 μ = some (r, μ')) (t0 : isK x0 12) (hw : Hw D b μ s.heap H locs) (hl : lvh b ls 2 [(0, 2, x0)]) : W p l e (rm 9) s m args below meth c H locs 0 0 (QM below args s D b (some (.int (jI r))) μ') (F0 m 11 ls []) := by
  unfold f_X12_goesIn_j11 at hf
  refine r_aload_n C hl (kx := 0) rfl rfl dX12_goesIn_11 ?_
  refine gf_12_120 C hw t0 dX12_goesIn_12 ?_
  refine r_if_ne C (tgt := 22) (by decide) dX12_goesIn_15 (fun c1 => ?_) (fun c1 => ?_)
  · have hf := ite_f c1 hf
    exact w_X12_goesIn_22 C hf t0 hw (lvh_sub hl [0] rfl)
  · have hf := ite_t c1 hf
    refine r_aload_n C hl (kx := 0) rfl rfl dX12_goesIn_18 ?_
    obtain ⟨r3, μ2, e4, hf⟩ := bn_some hf
    refine r_callVn C hw (K := []) ok12 t0 (c_X12_next l D b t0 e4) mi_X12_next in_X12_next se_X12_next kl_12_129 rfl rfl (lvh_sz hl) (by decide) (Kr := []) rfl (Nat.le_of_ble_eq_true rfl) dX12_goesIn_19 (fun H locs hw => ?_)
    exact w_X12_goesIn_22 C hf t0 hw (lvh_sub hl [0] rfl)
set_option maxHeartbeats 4000000 in
set_option maxRecDepth 20000 in
theorem w_X12_goesIn_0 (C : Cx p s m args meth c D b cX12_goesIn 2 RX12 (some .boolean)) {r : Int} {μ' : Mem} {x0 x1 : Int} {μ : Mem} {H : Heap} {locs : List Loc} {ls : Array Slot} (hf : f_X12_goesIn x0 x1 μ = some (r, μ')) (t0 : isK x0 12) (hw : Hw D b μ s.heap H locs) (hl : lvh b ls 2 [(0, 2, x0), (1, 0, x1)]) : W p l e (rm 9) s m args below meth c H locs 0 0 (QM below args s D b (some (.int (jI r))) μ') (F0 m 0 ls []) := by
  unfold f_X12_goesIn at hf
  refine r_iload_n C hl (kx := 1) rfl rfl dX12_goesIn_0 ?_
  refine r_bipush C (by decide) dX12_goesIn_1 ?_
  refine r_icmp_ne C (tgt := 11) (by decide) dX12_goesIn_3 (fun c1 => ?_) (fun c1 => ?_)
  · have hf := ite_f c1 hf
    exact w_X12_goesIn_11 C hf t0 hw (lvh_sub hl [0] rfl)
  · have hf := ite_t c1 hf
    refine r_aload_n C hl (kx := 0) rfl rfl dX12_goesIn_6 ?_
    refine r_iconst C dX12_goesIn_7 ?_
    obtain ⟨r3, μ2, e4, hf⟩ := bn_some hf
    refine r_callVn C hw (K := [(0, 4)]) ok12 t0 (c_X12_fails l D b t0 e4) mi_X12_fails in_X12_fails se_X12_fails kl_12_132 rfl rfl (lvh_sz hl) (by decide) (Kr := []) rfl (Nat.le_of_ble_eq_true rfl) dX12_goesIn_8 (fun H locs hw => ?_)
    exact w_X12_goesIn_11 C hf t0 hw (lvh_sub hl [0] rfl)
theorem c_X12_goesIn (l : Launch) (D : Ds) (b : Nat) {x0 x1 : Int} {μ μ' : Mem} {r : Int} (t0 : isK x0 12) (hf : f_X12_goesIn x0 x1 μ = some (r, μ')) : Ctr l D b yX12_goesIn cX12_goesIn 2 (some .boolean) 9 [(2, x0), (0, x1)] μ (some (.int (jI r))) μ' := by
  refine Ctr.of (by decide +kernel) (Nat.le_of_ble_eq_true rfl) ?_
  intro p e s m below meth c C hw ls hl
  exact w_X12_goesIn_0 C hf t0 hw hl
set_option maxHeartbeats 4000000 in
set_option maxRecDepth 20000 in
theorem w_X12_readAtom_66 (C : Cx p s m args meth c D b cX12_readAtom 2 RX12 (none)) {r : Int} {μ' : Mem} (rec : Nat → Int → Int → Mem → Option (Int × Mem)) (h_0 : ∀ (x0 x1 : Int) (μ μ' : Mem) (r : Int), isK x0 12 → rec 0 x0 x1 μ = some (r, μ') → Ctr l D b yX12_readAtom cX12_readAtom 2 (none) (n0 + 10) [(2, x0), (0, x1)] μ none μ') (h_1 : ∀ (x0 x1 : Int) (μ μ' : Mem) (r : Int), isK x0 12 → rec 1 x0 x1 μ = some (r, μ') → Ctr l D b yX12_readBoth cX12_readBoth 2 (none) (n0 + 10) [(2, x0), (0, x1)] μ none μ') (h_2 : ∀ (x0 x1 : Int) (μ μ' : Mem) (r : Int), isK x0 12 → rec 2 x0 x1 μ = some (r, μ') → Ctr l D b yX12_readIf cX12_readIf 2 (none) (n0 + 10) [(2, x0), (0, x1)] μ none μ') (h_3 : ∀ (x0 x1 : Int) (μ μ' : Mem) (r : Int), isK x0 12 → rec 3 x0 x1 μ = some (r, μ') → Ctr l D b yX12_readSum cX12_readSum 3 (none) (n0 + 10) [(2, x0), (0, x1)] μ none μ') (h_4 : ∀ (x0 x1 : Int) (μ μ' : Mem) (r : Int), isK x0 12 → rec 4 x0 x1 μ = some (r, μ') → Ctr l D b yX12_readTerm cX12_readTerm 2 (none) (n0 + 10) [(2, x0), (0, x1)] μ none μ') (h_5 : ∀ (x0 x1 : Int) (μ μ' : Mem) (r : Int), isK x0 12 → rec 5 x0 x1 μ = some (r, μ') → Ctr l D b yX12_readTruth cX12_readTruth 2 (none) (n0 + 10) [(2, x0), (0, x1)] μ none μ') (h_6 : ∀ (x0 x1 : Int) (μ μ' : Mem) (r : Int), isK x0 12 → rec 6 x0 x1 μ = some (r, μ') → Ctr l D b yX12_readUnit cX12_readUnit 3 (none) (n0 + 10) [(2, x0), (0, x1)] μ none μ') {x0 x1 : Int} {μ : Mem} {H : Heap} {locs : List Loc} {ls : Array Slot} (hf : f_X12_readAtom_j66 rec x0 x1 μ = some (r, μ')) (t0 : isK x0 12) (hw : Hw D b μ s.heap H locs) (hl : lvh b ls 2 [(0, 2, x0), (1, 0, x1)]) : W p l e (rm (n0 + 1 + 10)) s m args below meth c H locs 0 0 (QM below args s D b none μ') (F0 m 66 ls []) := by
  unfold f_X12_readAtom_j66 at hf
  refine r_aload_n C hl (kx := 0) rfl rfl dX12_readAtom_66 ?_
  refine r_bipush C (by decide) dX12_readAtom_67 ?_
  obtain ⟨r2, μ1, e3, hf⟩ := bn_some hf
  refine r_callVv C hw (K := [(0, 35)]) ok12 t0 (c_X12_is l D b t0 e3) mi_X12_is in_X12_is se_X12_is kl_12_126 rfl rfl (lvh_sz hl) ⟨by simp only [rm]; omega, by simp only [rm]; omega⟩ (Kr := []) rfl (Nat.le_of_ble_eq_true rfl) dX12_readAtom_69 (fun H locs hw => ?_)
  refine r_if_eq C (tgt := 108) (by decide) dX12_readAtom_72 (fun c4 => ?_) (fun c4 => ?_)
  · have hf := ite_t c4 hf
    refine r_aload_n C hl (kx := 0) rfl rfl dX12_readAtom_108 ?_
    refine r_bipush C (by decide) dX12_readAtom_109 ?_
    obtain ⟨r6, μ5, e7, hf⟩ := bn_some hf
    refine r_callVv C hw (K := [(0, 15)]) ok12 t0 (c_X12_is l D b t0 e7) mi_X12_is in_X12_is se_X12_is kl_12_126 rfl rfl (lvh_sz hl) ⟨by simp only [rm]; omega, by simp only [rm]; omega⟩ (Kr := []) rfl (Nat.le_of_ble_eq_true rfl) dX12_readAtom_111 (fun H locs hw => ?_)
    refine r_if_eq C (tgt := 125) (by decide) dX12_readAtom_114 (fun c8 => ?_) (fun c8 => ?_)
    · have hf := ite_t c8 hf
      refine r_aload_n C hl (kx := 0) rfl rfl dX12_readAtom_125 ?_
      refine r_iconst C dX12_readAtom_126 ?_
      obtain ⟨r10, μ9, e11, hf⟩ := bn_some hf
      refine r_callVn C hw (K := [(0, 2)]) ok12 t0 (c_X12_fails l D b t0 e11) mi_X12_fails in_X12_fails se_X12_fails kl_12_132 rfl rfl (lvh_sz hl) ⟨by simp only [rm]; omega, by simp only [rm]; omega⟩ (Kr := []) rfl (Nat.le_of_ble_eq_true rfl) dX12_readAtom_127 (fun H locs hw => ?_)
      exact r_vret C hw hf dX12_readAtom_130
    · have hf := ite_f c8 hf
      refine r_aload_n C hl (kx := 0) rfl rfl dX12_readAtom_117 ?_
      refine r_iload_n C hl (kx := 1) rfl rfl dX12_readAtom_118 ?_
      obtain ⟨r13, μ12, e14, hf⟩ := bn_some hf
      refine r_callVn C hw (K := [(0, x1)]) ok12 t0 (h_2 _ _ _ _ _ t0 e14) mi_X12_readIf in_X12_readIf se_X12_readIf kl_12_158 rfl rfl (lvh_sz hl) ⟨by simp only [rm]; omega, by simp only [rm]; omega⟩ (Kr := []) rfl (Nat.le_of_ble_eq_true rfl) dX12_readAtom_119 (fun H locs hw => ?_)
      refine r_goto C (tgt := 130) (by decide) dX12_readAtom_122 ?_
      exact r_vret C hw hf dX12_readAtom_130
  · have hf := ite_f c4 hf
    refine r_aload_n C hl (kx := 0) rfl rfl dX12_readAtom_75 ?_
    refine r_iload_n C hl (kx := 1) rfl rfl dX12_readAtom_76 ?_
    obtain ⟨r16, μ15, e17, hf⟩ := bn_some hf
    refine r_callVv C hw (K := [(0, x1)]) ok12 t0 (c_X12_goesIn l D b t0 e17) mi_X12_goesIn in_X12_goesIn se_X12_goesIn kl_12_149 rfl rfl (lvh_sz hl) ⟨by simp only [rm]; omega, by simp only [rm]; omega⟩ (Kr := []) rfl (Nat.le_of_ble_eq_true rfl) dX12_readAtom_77 (fun H locs hw => ?_)
    refine r_if_ne C (tgt := 84) (by decide) dX12_readAtom_80 (fun c18 => ?_) (fun c18 => ?_)
    · have hf := ite_f c18 hf
      refine r_aload_n C hl (kx := 0) rfl rfl dX12_readAtom_84 ?_
      refine r_iload_n C hl (kx := 1) rfl rfl dX12_readAtom_85 ?_
      refine r_iconst C dX12_readAtom_86 ?_
      refine r_iadd C dX12_readAtom_87 ?_
      obtain ⟨r20, μ19, e21, hf⟩ := bn_some hf
      refine r_callVn C hw (K := [(0, (x1 + 1))]) ok12 t0 (h_3 _ _ _ _ _ t0 e21) mi_X12_readSum in_X12_readSum se_X12_readSum kl_12_152 rfl rfl (lvh_sz hl) ⟨by simp only [rm]; omega, by simp only [rm]; omega⟩ (Kr := []) rfl (Nat.le_of_ble_eq_true rfl) dX12_readAtom_88 (fun H locs hw => ?_)
      refine r_aload_n C hl (kx := 0) rfl rfl dX12_readAtom_91 ?_
      refine r_bipush C (by decide) dX12_readAtom_92 ?_
      obtain ⟨r23, μ22, e24, hf⟩ := bn_some hf
      refine r_callVv C hw (K := [(0, 36)]) ok12 t0 (c_X12_eats l D b t0 e24) mi_X12_eats in_X12_eats se_X12_eats kl_12_155 rfl rfl (lvh_sz hl) ⟨by simp only [rm]; omega, by simp only [rm]; omega⟩ (Kr := []) rfl (Nat.le_of_ble_eq_true rfl) dX12_readAtom_94 (fun H locs hw => ?_)
      refine r_if_ne C (tgt := 130) (by decide) dX12_readAtom_97 (fun c25 => ?_) (fun c25 => ?_)
      · have hf := ite_f c25 hf
        exact r_vret C hw hf dX12_readAtom_130
      · have hf := ite_t c25 hf
        refine r_aload_n C hl (kx := 0) rfl rfl dX12_readAtom_100 ?_
        refine r_iconst C dX12_readAtom_101 ?_
        obtain ⟨r27, μ26, e28, hf⟩ := bn_some hf
        refine r_callVn C hw (K := [(0, 2)]) ok12 t0 (c_X12_fails l D b t0 e28) mi_X12_fails in_X12_fails se_X12_fails kl_12_132 rfl rfl (lvh_sz hl) ⟨by simp only [rm]; omega, by simp only [rm]; omega⟩ (Kr := []) rfl (Nat.le_of_ble_eq_true rfl) dX12_readAtom_102 (fun H locs hw => ?_)
        refine r_goto C (tgt := 130) (by decide) dX12_readAtom_105 ?_
        exact r_vret C hw hf dX12_readAtom_130
    · have hf := ite_t c18 hf
      exact r_vret C hw hf dX12_readAtom_83
set_option maxHeartbeats 4000000 in
set_option maxRecDepth 20000 in
theorem w_X12_readAtom_0 (C : Cx p s m args meth c D b cX12_readAtom 2 RX12 (none)) {r : Int} {μ' : Mem} (rec : Nat → Int → Int → Mem → Option (Int × Mem)) (h_0 : ∀ (x0 x1 : Int) (μ μ' : Mem) (r : Int), isK x0 12 → rec 0 x0 x1 μ = some (r, μ') → Ctr l D b yX12_readAtom cX12_readAtom 2 (none) (n0 + 10) [(2, x0), (0, x1)] μ none μ') (h_1 : ∀ (x0 x1 : Int) (μ μ' : Mem) (r : Int), isK x0 12 → rec 1 x0 x1 μ = some (r, μ') → Ctr l D b yX12_readBoth cX12_readBoth 2 (none) (n0 + 10) [(2, x0), (0, x1)] μ none μ') (h_2 : ∀ (x0 x1 : Int) (μ μ' : Mem) (r : Int), isK x0 12 → rec 2 x0 x1 μ = some (r, μ') → Ctr l D b yX12_readIf cX12_readIf 2 (none) (n0 + 10) [(2, x0), (0, x1)] μ none μ') (h_3 : ∀ (x0 x1 : Int) (μ μ' : Mem) (r : Int), isK x0 12 → rec 3 x0 x1 μ = some (r, μ') → Ctr l D b yX12_readSum cX12_readSum 3 (none) (n0 + 10) [(2, x0), (0, x1)] μ none μ') (h_4 : ∀ (x0 x1 : Int) (μ μ' : Mem) (r : Int), isK x0 12 → rec 4 x0 x1 μ = some (r, μ') → Ctr l D b yX12_readTerm cX12_readTerm 2 (none) (n0 + 10) [(2, x0), (0, x1)] μ none μ') (h_5 : ∀ (x0 x1 : Int) (μ μ' : Mem) (r : Int), isK x0 12 → rec 5 x0 x1 μ = some (r, μ') → Ctr l D b yX12_readTruth cX12_readTruth 2 (none) (n0 + 10) [(2, x0), (0, x1)] μ none μ') (h_6 : ∀ (x0 x1 : Int) (μ μ' : Mem) (r : Int), isK x0 12 → rec 6 x0 x1 μ = some (r, μ') → Ctr l D b yX12_readUnit cX12_readUnit 3 (none) (n0 + 10) [(2, x0), (0, x1)] μ none μ') {x0 x1 : Int} {μ : Mem} {H : Heap} {locs : List Loc} {ls : Array Slot} (hf : b_X12_readAtom rec x0 x1 μ = some (r, μ')) (t0 : isK x0 12) (hw : Hw D b μ s.heap H locs) (hl : lvh b ls 2 [(0, 2, x0), (1, 0, x1)]) : W p l e (rm (n0 + 1 + 10)) s m args below meth c H locs 0 0 (QM below args s D b none μ') (F0 m 0 ls []) := by
  unfold b_X12_readAtom at hf
  refine r_aload_n C hl (kx := 0) rfl rfl dX12_readAtom_0 ?_
  refine r_bipush C (by decide) dX12_readAtom_1 ?_
  obtain ⟨r2, μ1, e3, hf⟩ := bn_some hf
  refine r_callVv C hw (K := [(0, 23)]) ok12 t0 (c_X12_is l D b t0 e3) mi_X12_is in_X12_is se_X12_is kl_12_126 rfl rfl (lvh_sz hl) ⟨by simp only [rm]; omega, by simp only [rm]; omega⟩ (Kr := []) rfl (Nat.le_of_ble_eq_true rfl) dX12_readAtom_3 (fun H locs hw => ?_)
  refine r_if_eq C (tgt := 24) (by decide) dX12_readAtom_6 (fun c4 => ?_) (fun c4 => ?_)
  · have hf := ite_t c4 hf
    refine r_aload_n C hl (kx := 0) rfl rfl dX12_readAtom_24 ?_
    refine gf_12_120 C hw t0 dX12_readAtom_25 ?_
    refine r_if_ne C (tgt := 66) (by decide) dX12_readAtom_28 (fun c5 => ?_) (fun c5 => ?_)
    · have hf := ite_f c5 hf
      exact w_X12_readAtom_66 C _ h_0 h_1 h_2 h_3 h_4 h_5 h_6 hf t0 hw (lvh_sub hl [0, 1] rfl)
    · have hf := ite_t c5 hf
      refine r_aload_n C hl (kx := 0) rfl rfl dX12_readAtom_31 ?_
      refine r_aload_n C hl (kx := 0) rfl rfl dX12_readAtom_32 ?_
      refine gf_12_102 C hw t0 dX12_readAtom_33 ?_
      obtain ⟨r7, μ6, e8, hf⟩ := bn_some hf
      refine r_callVv C hw (K := [(0, (μ1 x0 9))]) ok12 t0 (c_X12_wordOf l D b t0 e8) mi_X12_wordOf in_X12_wordOf se_X12_wordOf kl_12_146 rfl rfl (lvh_sz hl) ⟨by simp only [rm]; omega, by simp only [rm]; omega⟩ (Kr := []) rfl (Nat.le_of_ble_eq_true rfl) dX12_readAtom_36 (fun H locs hw => ?_)
      refine r_iconst C dX12_readAtom_39 ?_
      refine r_icmp_eq C (tgt := 66) (by decide) dX12_readAtom_40 (fun c9 => ?_) (fun c9 => ?_)
      · have hf := ite_t c9 hf
        exact w_X12_readAtom_66 C _ h_0 h_1 h_2 h_3 h_4 h_5 h_6 hf t0 hw (lvh_sub hl [0, 1] rfl)
      · have hf := ite_f c9 hf
        refine r_aload_n C hl (kx := 0) rfl rfl dX12_readAtom_43 ?_
        refine r_sipush C (by decide) dX12_readAtom_44 ?_
        refine r_aload_n C hl (kx := 0) rfl rfl dX12_readAtom_47 ?_
        refine r_aload_n C hl (kx := 0) rfl rfl dX12_readAtom_48 ?_
        refine gf_12_102 C hw t0 dX12_readAtom_49 ?_
        obtain ⟨r11, μ10, e12, hf⟩ := bn_some hf
        refine r_callVv C hw (K := [(0, (μ6 x0 9))]) ok12 t0 (c_X12_wordOf l D b t0 e12) mi_X12_wordOf in_X12_wordOf se_X12_wordOf kl_12_146 rfl rfl (lvh_sz hl) ⟨by simp only [rm]; omega, by simp only [rm]; omega⟩ (Kr := [(0, 1000), (2, x0)]) rfl (Nat.le_of_ble_eq_true rfl) dX12_readAtom_52 (fun H locs hw => ?_)
        refine r_iadd C dX12_readAtom_55 ?_
        obtain ⟨r14, μ13, e15, hf⟩ := bn_some hf
        refine r_callVn C hw (K := [(0, (1000 + r11))]) ok12 t0 (c_X12_codes l D b t0 e15) mi_X12_codes in_X12_codes se_X12_codes kl_12_143 rfl rfl (lvh_sz hl) ⟨by simp only [rm]; omega, by simp only [rm]; omega⟩ (Kr := []) rfl (Nat.le_of_ble_eq_true rfl) dX12_readAtom_56 (fun H locs hw => ?_)
        refine r_aload_n C hl (kx := 0) rfl rfl dX12_readAtom_59 ?_
        obtain ⟨r17, μ16, e18, hf⟩ := bn_some hf
        refine r_callVn C hw (K := []) ok12 t0 (c_X12_next l D b t0 e18) mi_X12_next in_X12_next se_X12_next kl_12_129 rfl rfl (lvh_sz hl) ⟨by simp only [rm]; omega, by simp only [rm]; omega⟩ (Kr := []) rfl (Nat.le_of_ble_eq_true rfl) dX12_readAtom_60 (fun H locs hw => ?_)
        refine r_goto C (tgt := 130) (by decide) dX12_readAtom_63 ?_
        exact r_vret C hw hf dX12_readAtom_130
  · have hf := ite_f c4 hf
    refine r_aload_n C hl (kx := 0) rfl rfl dX12_readAtom_9 ?_
    refine r_aload_n C hl (kx := 0) rfl rfl dX12_readAtom_10 ?_
    refine gf_12_115 C hw t0 dX12_readAtom_11 ?_
    obtain ⟨r20, μ19, e21, hf⟩ := bn_some hf
    refine r_callVn C hw (K := [(0, (μ1 x0 10))]) ok12 t0 (c_X12_codes l D b t0 e21) mi_X12_codes in_X12_codes se_X12_codes kl_12_143 rfl rfl (lvh_sz hl) ⟨by simp only [rm]; omega, by simp only [rm]; omega⟩ (Kr := []) rfl (Nat.le_of_ble_eq_true rfl) dX12_readAtom_14 (fun H locs hw => ?_)
    refine r_aload_n C hl (kx := 0) rfl rfl dX12_readAtom_17 ?_
    obtain ⟨r23, μ22, e24, hf⟩ := bn_some hf
    refine r_callVn C hw (K := []) ok12 t0 (c_X12_next l D b t0 e24) mi_X12_next in_X12_next se_X12_next kl_12_129 rfl rfl (lvh_sz hl) ⟨by simp only [rm]; omega, by simp only [rm]; omega⟩ (Kr := []) rfl (Nat.le_of_ble_eq_true rfl) dX12_readAtom_18 (fun H locs hw => ?_)
    refine r_goto C (tgt := 130) (by decide) dX12_readAtom_21 ?_
    exact r_vret C hw hf dX12_readAtom_130
set_option maxHeartbeats 4000000 in
set_option maxRecDepth 20000 in
theorem w_X12_readBoth_5 (C : Cx p s m args meth c D b cX12_readBoth 2 RX12 (none)) {r : Int} {μ' : Mem} (rec : Nat → Int → Int → Mem → Option (Int × Mem)) (h_0 : ∀ (x0 x1 : Int) (μ μ' : Mem) (r : Int), isK x0 12 → rec 0 x0 x1 μ = some (r, μ') → Ctr l D b yX12_readAtom cX12_readAtom 2 (none) (n0 + 10) [(2, x0), (0, x1)] μ none μ') (h_1 : ∀ (x0 x1 : Int) (μ μ' : Mem) (r : Int), isK x0 12 → rec 1 x0 x1 μ = some (r, μ') → Ctr l D b yX12_readBoth cX12_readBoth 2 (none) (n0 + 10) [(2, x0), (0, x1)] μ none μ') (h_2 : ∀ (x0 x1 : Int) (μ μ' : Mem) (r : Int), isK x0 12 → rec 2 x0 x1 μ = some (r, μ') → Ctr l D b yX12_readIf cX12_readIf 2 (none) (n0 + 10) [(2, x0), (0, x1)] μ none μ') (h_3 : ∀ (x0 x1 : Int) (μ μ' : Mem) (r : Int), isK x0 12 → rec 3 x0 x1 μ = some (r, μ') → Ctr l D b yX12_readSum cX12_readSum 3 (none) (n0 + 10) [(2, x0), (0, x1)] μ none μ') (h_4 : ∀ (x0 x1 : Int) (μ μ' : Mem) (r : Int), isK x0 12 → rec 4 x0 x1 μ = some (r, μ') → Ctr l D b yX12_readTerm cX12_readTerm 2 (none) (n0 + 10) [(2, x0), (0, x1)] μ none μ') (h_5 : ∀ (x0 x1 : Int) (μ μ' : Mem) (r : Int), isK x0 12 → rec 5 x0 x1 μ = some (r, μ') → Ctr l D b yX12_readTruth cX12_readTruth 2 (none) (n0 + 10) [(2, x0), (0, x1)] μ none μ') (h_6 : ∀ (x0 x1 : Int) (μ μ' : Mem) (r : Int), isK x0 12 → rec 6 x0 x1 μ = some (r, μ') → Ctr l D b yX12_readUnit cX12_readUnit 3 (none) (n0 + 10) [(2, x0), (0, x1)] μ none μ') : ∀ (n : Nat) (x0 x1 : Int) (μ : Mem) (H : Heap) (locs : List Loc) (ls : Array Slot), f_X12_readBoth_w5 rec n x0 x1 μ = some (r, μ') → isK x0 12 → Hw D b μ s.heap H locs → lvh b ls 2 [(0, 2, x0), (1, 0, x1)] → W p l e (rm (n0 + 1 + 10)) s m args below meth c H locs 0 0 (QM below args s D b none μ') (F0 m 5 ls []) := by
  intro n
  induction n with
  | zero => intro x0 x1 μ H locs ls hf; cases hf
  | succ n ih =>
    intro x0 x1 μ H locs ls hf t0 hw hl
    rw [f_X12_readBoth_w5.eq_2] at hf
    refine r_aload_n C hl (kx := 0) rfl rfl dX12_readBoth_5 ?_
    refine r_bipush C (by decide) dX12_readBoth_6 ?_
    obtain ⟨r2, μ1, e3, hf⟩ := bn_some hf
    refine r_callVv C hw (K := [(0, 19)]) ok12 t0 (c_X12_eats l D b t0 e3) mi_X12_eats in_X12_eats se_X12_eats kl_12_155 rfl rfl (lvh_sz hl) ⟨by simp only [rm]; omega, by simp only [rm]; omega⟩ (Kr := []) rfl (Nat.le_of_ble_eq_true rfl) dX12_readBoth_8 (fun H locs hw => ?_)
    refine r_if_eq C (tgt := 29) (by decide) dX12_readBoth_11 (fun c4 => ?_) (fun c4 => ?_)
    · have hf := ite_t c4 hf
      exact r_vret C hw hf dX12_readBoth_29
    · have hf := ite_f c4 hf
      refine r_aload_n C hl (kx := 0) rfl rfl dX12_readBoth_14 ?_
      refine r_iload_n C hl (kx := 1) rfl rfl dX12_readBoth_15 ?_
      obtain ⟨r6, μ5, e7, hf⟩ := bn_some hf
      refine r_callVn C hw (K := [(0, x1)]) ok12 t0 (h_6 _ _ _ _ _ t0 e7) mi_X12_readUnit in_X12_readUnit se_X12_readUnit kl_12_170 rfl rfl (lvh_sz hl) ⟨by simp only [rm]; omega, by simp only [rm]; omega⟩ (Kr := []) rfl (Nat.le_of_ble_eq_true rfl) dX12_readBoth_16 (fun H locs hw => ?_)
      refine r_aload_n C hl (kx := 0) rfl rfl dX12_readBoth_19 ?_
      refine r_sipush C (by decide) dX12_readBoth_20 ?_
      obtain ⟨r9, μ8, e10, hf⟩ := bn_some hf
      refine r_callVn C hw (K := [(0, 3007)]) ok12 t0 (c_X12_codes l D b t0 e10) mi_X12_codes in_X12_codes se_X12_codes kl_12_143 rfl rfl (lvh_sz hl) ⟨by simp only [rm]; omega, by simp only [rm]; omega⟩ (Kr := []) rfl (Nat.le_of_ble_eq_true rfl) dX12_readBoth_23 (fun H locs hw => ?_)
      refine r_goto C (tgt := 5) (by decide) dX12_readBoth_26 ?_
      exact ih _ _ _ _ _ _ hf t0 hw (lvh_sub hl [0, 1] rfl)
set_option maxHeartbeats 4000000 in
set_option maxRecDepth 20000 in
theorem w_X12_readBoth_0 (C : Cx p s m args meth c D b cX12_readBoth 2 RX12 (none)) {r : Int} {μ' : Mem} (rec : Nat → Int → Int → Mem → Option (Int × Mem)) (h_0 : ∀ (x0 x1 : Int) (μ μ' : Mem) (r : Int), isK x0 12 → rec 0 x0 x1 μ = some (r, μ') → Ctr l D b yX12_readAtom cX12_readAtom 2 (none) (n0 + 10) [(2, x0), (0, x1)] μ none μ') (h_1 : ∀ (x0 x1 : Int) (μ μ' : Mem) (r : Int), isK x0 12 → rec 1 x0 x1 μ = some (r, μ') → Ctr l D b yX12_readBoth cX12_readBoth 2 (none) (n0 + 10) [(2, x0), (0, x1)] μ none μ') (h_2 : ∀ (x0 x1 : Int) (μ μ' : Mem) (r : Int), isK x0 12 → rec 2 x0 x1 μ = some (r, μ') → Ctr l D b yX12_readIf cX12_readIf 2 (none) (n0 + 10) [(2, x0), (0, x1)] μ none μ') (h_3 : ∀ (x0 x1 : Int) (μ μ' : Mem) (r : Int), isK x0 12 → rec 3 x0 x1 μ = some (r, μ') → Ctr l D b yX12_readSum cX12_readSum 3 (none) (n0 + 10) [(2, x0), (0, x1)] μ none μ') (h_4 : ∀ (x0 x1 : Int) (μ μ' : Mem) (r : Int), isK x0 12 → rec 4 x0 x1 μ = some (r, μ') → Ctr l D b yX12_readTerm cX12_readTerm 2 (none) (n0 + 10) [(2, x0), (0, x1)] μ none μ') (h_5 : ∀ (x0 x1 : Int) (μ μ' : Mem) (r : Int), isK x0 12 → rec 5 x0 x1 μ = some (r, μ') → Ctr l D b yX12_readTruth cX12_readTruth 2 (none) (n0 + 10) [(2, x0), (0, x1)] μ none μ') (h_6 : ∀ (x0 x1 : Int) (μ μ' : Mem) (r : Int), isK x0 12 → rec 6 x0 x1 μ = some (r, μ') → Ctr l D b yX12_readUnit cX12_readUnit 3 (none) (n0 + 10) [(2, x0), (0, x1)] μ none μ') {x0 x1 : Int} {μ : Mem} {H : Heap} {locs : List Loc} {ls : Array Slot} (hf : b_X12_readBoth rec x0 x1 μ = some (r, μ')) (t0 : isK x0 12) (hw : Hw D b μ s.heap H locs) (hl : lvh b ls 2 [(0, 2, x0), (1, 0, x1)]) : W p l e (rm (n0 + 1 + 10)) s m args below meth c H locs 0 0 (QM below args s D b none μ') (F0 m 0 ls []) := by
  unfold b_X12_readBoth at hf
  refine r_aload_n C hl (kx := 0) rfl rfl dX12_readBoth_0 ?_
  refine r_iload_n C hl (kx := 1) rfl rfl dX12_readBoth_1 ?_
  obtain ⟨r2, μ1, e3, hf⟩ := bn_some hf
  refine r_callVn C hw (K := [(0, x1)]) ok12 t0 (h_6 _ _ _ _ _ t0 e3) mi_X12_readUnit in_X12_readUnit se_X12_readUnit kl_12_170 rfl rfl (lvh_sz hl) ⟨by simp only [rm]; omega, by simp only [rm]; omega⟩ (Kr := []) rfl (Nat.le_of_ble_eq_true rfl) dX12_readBoth_2 (fun H locs hw => ?_)
  exact w_X12_readBoth_5 C _ h_0 h_1 h_2 h_3 h_4 h_5 h_6 FU _ _ _ _ _ _ hf t0 hw (lvh_sub hl [0, 1] rfl)
set_option maxHeartbeats 4000000 in
set_option maxRecDepth 20000 in
theorem w_X12_readIf_72 (C : Cx p s m args meth c D b cX12_readIf 2 RX12 (none)) {r : Int} {μ' : Mem} (rec : Nat → Int → Int → Mem → Option (Int × Mem)) (h_0 : ∀ (x0 x1 : Int) (μ μ' : Mem) (r : Int), isK x0 12 → rec 0 x0 x1 μ = some (r, μ') → Ctr l D b yX12_readAtom cX12_readAtom 2 (none) (n0 + 10) [(2, x0), (0, x1)] μ none μ') (h_1 : ∀ (x0 x1 : Int) (μ μ' : Mem) (r : Int), isK x0 12 → rec 1 x0 x1 μ = some (r, μ') → Ctr l D b yX12_readBoth cX12_readBoth 2 (none) (n0 + 10) [(2, x0), (0, x1)] μ none μ') (h_2 : ∀ (x0 x1 : Int) (μ μ' : Mem) (r : Int), isK x0 12 → rec 2 x0 x1 μ = some (r, μ') → Ctr l D b yX12_readIf cX12_readIf 2 (none) (n0 + 10) [(2, x0), (0, x1)] μ none μ') (h_3 : ∀ (x0 x1 : Int) (μ μ' : Mem) (r : Int), isK x0 12 → rec 3 x0 x1 μ = some (r, μ') → Ctr l D b yX12_readSum cX12_readSum 3 (none) (n0 + 10) [(2, x0), (0, x1)] μ none μ') (h_4 : ∀ (x0 x1 : Int) (μ μ' : Mem) (r : Int), isK x0 12 → rec 4 x0 x1 μ = some (r, μ') → Ctr l D b yX12_readTerm cX12_readTerm 2 (none) (n0 + 10) [(2, x0), (0, x1)] μ none μ') (h_5 : ∀ (x0 x1 : Int) (μ μ' : Mem) (r : Int), isK x0 12 → rec 5 x0 x1 μ = some (r, μ') → Ctr l D b yX12_readTruth cX12_readTruth 2 (none) (n0 + 10) [(2, x0), (0, x1)] μ none μ') (h_6 : ∀ (x0 x1 : Int) (μ μ' : Mem) (r : Int), isK x0 12 → rec 6 x0 x1 μ = some (r, μ') → Ctr l D b yX12_readUnit cX12_readUnit 3 (none) (n0 + 10) [(2, x0), (0, x1)] μ none μ') {x0 : Int} {μ : Mem} {H : Heap} {locs : List Loc} {ls : Array Slot} (hf : f_X12_readIf_j72 rec x0 μ = some (r, μ')) (t0 : isK x0 12) (hw : Hw D b μ s.heap H locs) (hl : lvh b ls 2 [(0, 2, x0)]) : W p l e (rm (n0 + 1 + 10)) s m args below meth c H locs 0 0 (QM below args s D b none μ') (F0 m 72 ls []) := by
  unfold f_X12_readIf_j72 at hf
  refine r_aload_n C hl (kx := 0) rfl rfl dX12_readIf_72 ?_
  refine r_sipush C (by decide) dX12_readIf_73 ?_
  obtain ⟨r2, μ1, e3, hf⟩ := bn_some hf
  refine r_callVn C hw (K := [(0, 3009)]) ok12 t0 (c_X12_codes l D b t0 e3) mi_X12_codes in_X12_codes se_X12_codes kl_12_143 rfl rfl (lvh_sz hl) ⟨by simp only [rm]; omega, by simp only [rm]; omega⟩ (Kr := []) rfl (Nat.le_of_ble_eq_true rfl) dX12_readIf_76 (fun H locs hw => ?_)
  exact r_vret C hw hf dX12_readIf_79
set_option maxHeartbeats 4000000 in
set_option maxRecDepth 20000 in
theorem w_X12_readIf_51 (C : Cx p s m args meth c D b cX12_readIf 2 RX12 (none)) {r : Int} {μ' : Mem} (rec : Nat → Int → Int → Mem → Option (Int × Mem)) (h_0 : ∀ (x0 x1 : Int) (μ μ' : Mem) (r : Int), isK x0 12 → rec 0 x0 x1 μ = some (r, μ') → Ctr l D b yX12_readAtom cX12_readAtom 2 (none) (n0 + 10) [(2, x0), (0, x1)] μ none μ') (h_1 : ∀ (x0 x1 : Int) (μ μ' : Mem) (r : Int), isK x0 12 → rec 1 x0 x1 μ = some (r, μ') → Ctr l D b yX12_readBoth cX12_readBoth 2 (none) (n0 + 10) [(2, x0), (0, x1)] μ none μ') (h_2 : ∀ (x0 x1 : Int) (μ μ' : Mem) (r : Int), isK x0 12 → rec 2 x0 x1 μ = some (r, μ') → Ctr l D b yX12_readIf cX12_readIf 2 (none) (n0 + 10) [(2, x0), (0, x1)] μ none μ') (h_3 : ∀ (x0 x1 : Int) (μ μ' : Mem) (r : Int), isK x0 12 → rec 3 x0 x1 μ = some (r, μ') → Ctr l D b yX12_readSum cX12_readSum 3 (none) (n0 + 10) [(2, x0), (0, x1)] μ none μ') (h_4 : ∀ (x0 x1 : Int) (μ μ' : Mem) (r : Int), isK x0 12 → rec 4 x0 x1 μ = some (r, μ') → Ctr l D b yX12_readTerm cX12_readTerm 2 (none) (n0 + 10) [(2, x0), (0, x1)] μ none μ') (h_5 : ∀ (x0 x1 : Int) (μ μ' : Mem) (r : Int), isK x0 12 → rec 5 x0 x1 μ = some (r, μ') → Ctr l D b yX12_readTruth cX12_readTruth 2 (none) (n0 + 10) [(2, x0), (0, x1)] μ none μ') (h_6 : ∀ (x0 x1 : Int) (μ μ' : Mem) (r : Int), isK x0 12 → rec 6 x0 x1 μ = some (r, μ') → Ctr l D b yX12_readUnit cX12_readUnit 3 (none) (n0 + 10) [(2, x0), (0, x1)] μ none μ') {x0 x1 : Int} {μ : Mem} {H : Heap} {locs : List Loc} {ls : Array Slot} (hf : f_X12_readIf_j51 rec x0 x1 μ = some (r, μ')) (t0 : isK x0 12) (hw : Hw D b μ s.heap H locs) (hl : lvh b ls 2 [(0, 2, x0), (1, 0, x1)]) : W p l e (rm (n0 + 1 + 10)) s m args below meth c H locs 0 0 (QM below args s D b none μ') (F0 m 51 ls []) := by
  unfold f_X12_readIf_j51 at hf
  refine r_aload_n C hl (kx := 0) rfl rfl dX12_readIf_51 ?_
  refine r_iload_n C hl (kx := 1) rfl rfl dX12_readIf_52 ?_
  refine r_iconst C dX12_readIf_53 ?_
  refine r_iadd C dX12_readIf_54 ?_
  obtain ⟨r2, μ1, e3, hf⟩ := bn_some hf
  refine r_callVn C hw (K := [(0, (x1 + 1))]) ok12 t0 (h_3 _ _ _ _ _ t0 e3) mi_X12_readSum in_X12_readSum se_X12_readSum kl_12_152 rfl rfl (lvh_sz hl) ⟨by simp only [rm]; omega, by simp only [rm]; omega⟩ (Kr := []) rfl (Nat.le_of_ble_eq_true rfl) dX12_readIf_55 (fun H locs hw => ?_)
  refine r_aload_n C hl (kx := 0) rfl rfl dX12_readIf_58 ?_
  refine r_bipush C (by decide) dX12_readIf_59 ?_
  obtain ⟨r5, μ4, e6, hf⟩ := bn_some hf
  refine r_callVv C hw (K := [(0, 18)]) ok12 t0 (c_X12_eats l D b t0 e6) mi_X12_eats in_X12_eats se_X12_eats kl_12_155 rfl rfl (lvh_sz hl) ⟨by simp only [rm]; omega, by simp only [rm]; omega⟩ (Kr := []) rfl (Nat.le_of_ble_eq_true rfl) dX12_readIf_61 (fun H locs hw => ?_)
  refine r_if_ne C (tgt := 72) (by decide) dX12_readIf_64 (fun c7 => ?_) (fun c7 => ?_)
  · have hf := ite_f c7 hf
    exact w_X12_readIf_72 C _ h_0 h_1 h_2 h_3 h_4 h_5 h_6 hf t0 hw (lvh_sub hl [0] rfl)
  · have hf := ite_t c7 hf
    refine r_aload_n C hl (kx := 0) rfl rfl dX12_readIf_67 ?_
    refine r_iconst C dX12_readIf_68 ?_
    obtain ⟨r9, μ8, e10, hf⟩ := bn_some hf
    refine r_callVn C hw (K := [(0, 2)]) ok12 t0 (c_X12_fails l D b t0 e10) mi_X12_fails in_X12_fails se_X12_fails kl_12_132 rfl rfl (lvh_sz hl) ⟨by simp only [rm]; omega, by simp only [rm]; omega⟩ (Kr := []) rfl (Nat.le_of_ble_eq_true rfl) dX12_readIf_69 (fun H locs hw => ?_)
    exact w_X12_readIf_72 C _ h_0 h_1 h_2 h_3 h_4 h_5 h_6 hf t0 hw (lvh_sub hl [0] rfl)
set_option maxHeartbeats 4000000 in
set_option maxRecDepth 20000 in
theorem w_X12_readIf_30 (C : Cx p s m args meth c D b cX12_readIf 2 RX12 (none)) {r : Int} {μ' : Mem} (rec : Nat → Int → Int → Mem → Option (Int × Mem)) (h_0 : ∀ (x0 x1 : Int) (μ μ' : Mem) (r : Int), isK x0 12 → rec 0 x0 x1 μ = some (r, μ') → Ctr l D b yX12_readAtom cX12_readAtom 2 (none) (n0 + 10) [(2, x0), (0, x1)] μ none μ') (h_1 : ∀ (x0 x1 : Int) (μ μ' : Mem) (r : Int), isK x0 12 → rec 1 x0 x1 μ = some (r, μ') → Ctr l D b yX12_readBoth cX12_readBoth 2 (none) (n0 + 10) [(2, x0), (0, x1)] μ none μ') (h_2 : ∀ (x0 x1 : Int) (μ μ' : Mem) (r : Int), isK x0 12 → rec 2 x0 x1 μ = some (r, μ') → Ctr l D b yX12_readIf cX12_readIf 2 (none) (n0 + 10) [(2, x0), (0, x1)] μ none μ') (h_3 : ∀ (x0 x1 : Int) (μ μ' : Mem) (r : Int), isK x0 12 → rec 3 x0 x1 μ = some (r, μ') → Ctr l D b yX12_readSum cX12_readSum 3 (none) (n0 + 10) [(2, x0), (0, x1)] μ none μ') (h_4 : ∀ (x0 x1 : Int) (μ μ' : Mem) (r : Int), isK x0 12 → rec 4 x0 x1 μ = some (r, μ') → Ctr l D b yX12_readTerm cX12_readTerm 2 (none) (n0 + 10) [(2, x0), (0, x1)] μ none μ') (h_5 : ∀ (x0 x1 : Int) (μ μ' : Mem) (r : Int), isK x0 12 → rec 5 x0 x1 μ = some (r, μ') → Ctr l D b yX12_readTruth cX12_readTruth 2 (none) (n0 + 10) [(2, x0), (0, x1)] μ none μ') (h_6 : ∀ (x0 x1 : Int) (μ μ' : Mem) (r : Int), isK x0 12 → rec 6 x0 x1 μ = some (r, μ') → Ctr l D b yX12_readUnit cX12_readUnit 3 (none) (n0 + 10) [(2, x0), (0, x1)] μ none μ') {x0 x1 : Int} {μ : Mem} {H : Heap} {locs : List Loc} {ls : Array Slot} (hf : f_X12_readIf_j30 rec x0 x1 μ = some (r, μ')) (t0 : isK x0 12) (hw : Hw D b μ s.heap H locs) (hl : lvh b ls 2 [(0, 2, x0), (1, 0, x1)]) : W p l e (rm (n0 + 1 + 10)) s m args below meth c H locs 0 0 (QM below args s D b none μ') (F0 m 30 ls []) := by
  unfold f_X12_readIf_j30 at hf
  refine r_aload_n C hl (kx := 0) rfl rfl dX12_readIf_30 ?_
  refine r_iload_n C hl (kx := 1) rfl rfl dX12_readIf_31 ?_
  refine r_iconst C dX12_readIf_32 ?_
  refine r_iadd C dX12_readIf_33 ?_
  obtain ⟨r2, μ1, e3, hf⟩ := bn_some hf
  refine r_callVn C hw (K := [(0, (x1 + 1))]) ok12 t0 (h_3 _ _ _ _ _ t0 e3) mi_X12_readSum in_X12_readSum se_X12_readSum kl_12_152 rfl rfl (lvh_sz hl) ⟨by simp only [rm]; omega, by simp only [rm]; omega⟩ (Kr := []) rfl (Nat.le_of_ble_eq_true rfl) dX12_readIf_34 (fun H locs hw => ?_)
  refine r_aload_n C hl (kx := 0) rfl rfl dX12_readIf_37 ?_
  refine r_bipush C (by decide) dX12_readIf_38 ?_
  obtain ⟨r5, μ4, e6, hf⟩ := bn_some hf
  refine r_callVv C hw (K := [(0, 17)]) ok12 t0 (c_X12_eats l D b t0 e6) mi_X12_eats in_X12_eats se_X12_eats kl_12_155 rfl rfl (lvh_sz hl) ⟨by simp only [rm]; omega, by simp only [rm]; omega⟩ (Kr := []) rfl (Nat.le_of_ble_eq_true rfl) dX12_readIf_40 (fun H locs hw => ?_)
  refine r_if_ne C (tgt := 51) (by decide) dX12_readIf_43 (fun c7 => ?_) (fun c7 => ?_)
  · have hf := ite_f c7 hf
    exact w_X12_readIf_51 C _ h_0 h_1 h_2 h_3 h_4 h_5 h_6 hf t0 hw (lvh_sub hl [0, 1] rfl)
  · have hf := ite_t c7 hf
    refine r_aload_n C hl (kx := 0) rfl rfl dX12_readIf_46 ?_
    refine r_iconst C dX12_readIf_47 ?_
    obtain ⟨r9, μ8, e10, hf⟩ := bn_some hf
    refine r_callVn C hw (K := [(0, 2)]) ok12 t0 (c_X12_fails l D b t0 e10) mi_X12_fails in_X12_fails se_X12_fails kl_12_132 rfl rfl (lvh_sz hl) ⟨by simp only [rm]; omega, by simp only [rm]; omega⟩ (Kr := []) rfl (Nat.le_of_ble_eq_true rfl) dX12_readIf_48 (fun H locs hw => ?_)
    exact w_X12_readIf_51 C _ h_0 h_1 h_2 h_3 h_4 h_5 h_6 hf t0 hw (lvh_sub hl [0, 1] rfl)
set_option maxHeartbeats 4000000 in
set_option maxRecDepth 20000 in
theorem w_X12_readIf_0 (C : Cx p s m args meth c D b cX12_readIf 2 RX12 (none)) {r : Int} {μ' : Mem} (rec : Nat → Int → Int → Mem → Option (Int × Mem)) (h_0 : ∀ (x0 x1 : Int) (μ μ' : Mem) (r : Int), isK x0 12 → rec 0 x0 x1 μ = some (r, μ') → Ctr l D b yX12_readAtom cX12_readAtom 2 (none) (n0 + 10) [(2, x0), (0, x1)] μ none μ') (h_1 : ∀ (x0 x1 : Int) (μ μ' : Mem) (r : Int), isK x0 12 → rec 1 x0 x1 μ = some (r, μ') → Ctr l D b yX12_readBoth cX12_readBoth 2 (none) (n0 + 10) [(2, x0), (0, x1)] μ none μ') (h_2 : ∀ (x0 x1 : Int) (μ μ' : Mem) (r : Int), isK x0 12 → rec 2 x0 x1 μ = some (r, μ') → Ctr l D b yX12_readIf cX12_readIf 2 (none) (n0 + 10) [(2, x0), (0, x1)] μ none μ') (h_3 : ∀ (x0 x1 : Int) (μ μ' : Mem) (r : Int), isK x0 12 → rec 3 x0 x1 μ = some (r, μ') → Ctr l D b yX12_readSum cX12_readSum 3 (none) (n0 + 10) [(2, x0), (0, x1)] μ none μ') (h_4 : ∀ (x0 x1 : Int) (μ μ' : Mem) (r : Int), isK x0 12 → rec 4 x0 x1 μ = some (r, μ') → Ctr l D b yX12_readTerm cX12_readTerm 2 (none) (n0 + 10) [(2, x0), (0, x1)] μ none μ') (h_5 : ∀ (x0 x1 : Int) (μ μ' : Mem) (r : Int), isK x0 12 → rec 5 x0 x1 μ = some (r, μ') → Ctr l D b yX12_readTruth cX12_readTruth 2 (none) (n0 + 10) [(2, x0), (0, x1)] μ none μ') (h_6 : ∀ (x0 x1 : Int) (μ μ' : Mem) (r : Int), isK x0 12 → rec 6 x0 x1 μ = some (r, μ') → Ctr l D b yX12_readUnit cX12_readUnit 3 (none) (n0 + 10) [(2, x0), (0, x1)] μ none μ') {x0 x1 : Int} {μ : Mem} {H : Heap} {locs : List Loc} {ls : Array Slot} (hf : b_X12_readIf rec x0 x1 μ = some (r, μ')) (t0 : isK x0 12) (hw : Hw D b μ s.heap H locs) (hl : lvh b ls 2 [(0, 2, x0), (1, 0, x1)]) : W p l e (rm (n0 + 1 + 10)) s m args below meth c H locs 0 0 (QM below args s D b none μ') (F0 m 0 ls []) := by
  unfold b_X12_readIf at hf
  refine r_aload_n C hl (kx := 0) rfl rfl dX12_readIf_0 ?_
  refine r_iload_n C hl (kx := 1) rfl rfl dX12_readIf_1 ?_
  obtain ⟨r2, μ1, e3, hf⟩ := bn_some hf
  refine r_callVv C hw (K := [(0, x1)]) ok12 t0 (c_X12_goesIn l D b t0 e3) mi_X12_goesIn in_X12_goesIn se_X12_goesIn kl_12_149 rfl rfl (lvh_sz hl) ⟨by simp only [rm]; omega, by simp only [rm]; omega⟩ (Kr := []) rfl (Nat.le_of_ble_eq_true rfl) dX12_readIf_2 (fun H locs hw => ?_)
  refine r_if_ne C (tgt := 9) (by decide) dX12_readIf_5 (fun c4 => ?_) (fun c4 => ?_)
  · have hf := ite_f c4 hf
    refine r_aload_n C hl (kx := 0) rfl rfl dX12_readIf_9 ?_
    refine r_iload_n C hl (kx := 1) rfl rfl dX12_readIf_10 ?_
    refine r_iconst C dX12_readIf_11 ?_
    refine r_iadd C dX12_readIf_12 ?_
    obtain ⟨r6, μ5, e7, hf⟩ := bn_some hf
    refine r_callVn C hw (K := [(0, (x1 + 1))]) ok12 t0 (h_5 _ _ _ _ _ t0 e7) mi_X12_readTruth in_X12_readTruth se_X12_readTruth kl_12_161 rfl rfl (lvh_sz hl) ⟨by simp only [rm]; omega, by simp only [rm]; omega⟩ (Kr := []) rfl (Nat.le_of_ble_eq_true rfl) dX12_readIf_13 (fun H locs hw => ?_)
    refine r_aload_n C hl (kx := 0) rfl rfl dX12_readIf_16 ?_
    refine r_bipush C (by decide) dX12_readIf_17 ?_
    obtain ⟨r9, μ8, e10, hf⟩ := bn_some hf
    refine r_callVv C hw (K := [(0, 16)]) ok12 t0 (c_X12_eats l D b t0 e10) mi_X12_eats in_X12_eats se_X12_eats kl_12_155 rfl rfl (lvh_sz hl) ⟨by simp only [rm]; omega, by simp only [rm]; omega⟩ (Kr := []) rfl (Nat.le_of_ble_eq_true rfl) dX12_readIf_19 (fun H locs hw => ?_)
    refine r_if_ne C (tgt := 30) (by decide) dX12_readIf_22 (fun c11 => ?_) (fun c11 => ?_)
    · have hf := ite_f c11 hf
      exact w_X12_readIf_30 C _ h_0 h_1 h_2 h_3 h_4 h_5 h_6 hf t0 hw (lvh_sub hl [0, 1] rfl)
    · have hf := ite_t c11 hf
      refine r_aload_n C hl (kx := 0) rfl rfl dX12_readIf_25 ?_
      refine r_iconst C dX12_readIf_26 ?_
      obtain ⟨r13, μ12, e14, hf⟩ := bn_some hf
      refine r_callVn C hw (K := [(0, 2)]) ok12 t0 (c_X12_fails l D b t0 e14) mi_X12_fails in_X12_fails se_X12_fails kl_12_132 rfl rfl (lvh_sz hl) ⟨by simp only [rm]; omega, by simp only [rm]; omega⟩ (Kr := []) rfl (Nat.le_of_ble_eq_true rfl) dX12_readIf_27 (fun H locs hw => ?_)
      exact w_X12_readIf_30 C _ h_0 h_1 h_2 h_3 h_4 h_5 h_6 hf t0 hw (lvh_sub hl [0, 1] rfl)
  · have hf := ite_t c4 hf
    exact r_vret C hw hf dX12_readIf_8
set_option maxHeartbeats 4000000 in
set_option maxRecDepth 20000 in
theorem w_X12_readSum_41 (C : Cx p s m args meth c D b cX12_readSum 3 RX12 (none)) {r : Int} {μ' : Mem} (rec : Nat → Int → Int → Mem → Option (Int × Mem)) (h_0 : ∀ (x0 x1 : Int) (μ μ' : Mem) (r : Int), isK x0 12 → rec 0 x0 x1 μ = some (r, μ') → Ctr l D b yX12_readAtom cX12_readAtom 2 (none) (n0 + 10) [(2, x0), (0, x1)] μ none μ') (h_1 : ∀ (x0 x1 : Int) (μ μ' : Mem) (r : Int), isK x0 12 → rec 1 x0 x1 μ = some (r, μ') → Ctr l D b yX12_readBoth cX12_readBoth 2 (none) (n0 + 10) [(2, x0), (0, x1)] μ none μ') (h_2 : ∀ (x0 x1 : Int) (μ μ' : Mem) (r : Int), isK x0 12 → rec 2 x0 x1 μ = some (r, μ') → Ctr l D b yX12_readIf cX12_readIf 2 (none) (n0 + 10) [(2, x0), (0, x1)] μ none μ') (h_3 : ∀ (x0 x1 : Int) (μ μ' : Mem) (r : Int), isK x0 12 → rec 3 x0 x1 μ = some (r, μ') → Ctr l D b yX12_readSum cX12_readSum 3 (none) (n0 + 10) [(2, x0), (0, x1)] μ none μ') (h_4 : ∀ (x0 x1 : Int) (μ μ' : Mem) (r : Int), isK x0 12 → rec 4 x0 x1 μ = some (r, μ') → Ctr l D b yX12_readTerm cX12_readTerm 2 (none) (n0 + 10) [(2, x0), (0, x1)] μ none μ') (h_5 : ∀ (x0 x1 : Int) (μ μ' : Mem) (r : Int), isK x0 12 → rec 5 x0 x1 μ = some (r, μ') → Ctr l D b yX12_readTruth cX12_readTruth 2 (none) (n0 + 10) [(2, x0), (0, x1)] μ none μ') (h_6 : ∀ (x0 x1 : Int) (μ μ' : Mem) (r : Int), isK x0 12 → rec 6 x0 x1 μ = some (r, μ') → Ctr l D b yX12_readUnit cX12_readUnit 3 (none) (n0 + 10) [(2, x0), (0, x1)] μ none μ') (k5 : Int → Int → Mem → Option (Int × Mem)) (h5 : ∀ (x0 x1 : Int) (μ : Mem) (H : Heap) (locs : List Loc) (ls : Array Slot), k5 x0 x1 μ = some (r, μ') → isK x0 12 → Hw D b μ s.heap H locs → lvh b ls 3 [(0, 2, x0), (1, 0, x1)] → W p l e (rm (n0 + 1 + 10)) s m args below meth c H locs 0 0 (QM below args s D b none μ') (F0 m 5 ls [])) {x0 x1 s0 : Int} {μ : Mem} {H : Heap} {locs : List Loc} {ls : Array Slot} (hf : f_X12_readSum_j41 rec k5 x0 x1 s0 μ = some (r, μ')) (t0 : isK x0 12) (hw : Hw D b μ s.heap H locs) (hl : lvh b ls 3 [(0, 2, x0), (1, 0, x1)]) : W p l e (rm (n0 + 1 + 10)) s m args below meth c H locs 0 0 (QM below args s D b none μ') (F0 m 41 ls [.int (jI s0)]) := by
  unfold f_X12_readSum_j41 at hf
  refine r_istore_n C hl (by decide) (L' := [(2, 0, s0), (0, 2, x0), (1, 0, x1)]) rfl rfl dX12_readSum_41 (fun ls hl => ?_)
  refine r_aload_n C hl (kx := 1) rfl rfl dX12_readSum_42 ?_
  obtain ⟨r2, μ1, e3, hf⟩ := bn_some hf
  refine r_callVn C hw (K := []) ok12 t0 (c_X12_next l D b t0 e3) mi_X12_next in_X12_next se_X12_next kl_12_129 rfl rfl (lvh_sz hl) ⟨by simp only [rm]; omega, by simp only [rm]; omega⟩ (Kr := []) rfl (Nat.le_of_ble_eq_true rfl) dX12_readSum_43 (fun H locs hw => ?_)
  refine r_aload_n C hl (kx := 1) rfl rfl dX12_readSum_46 ?_
  refine r_iload_n C hl (kx := 2) rfl rfl dX12_readSum_47 ?_
  obtain ⟨r5, μ4, e6, hf⟩ := bn_some hf
  refine r_callVn C hw (K := [(0, x1)]) ok12 t0 (h_4 _ _ _ _ _ t0 e6) mi_X12_readTerm in_X12_readTerm se_X12_readTerm kl_12_167 rfl rfl (lvh_sz hl) ⟨by simp only [rm]; omega, by simp only [rm]; omega⟩ (Kr := []) rfl (Nat.le_of_ble_eq_true rfl) dX12_readSum_48 (fun H locs hw => ?_)
  refine r_aload_n C hl (kx := 1) rfl rfl dX12_readSum_51 ?_
  refine r_iload_n C hl (kx := 0) rfl rfl dX12_readSum_52 ?_
  obtain ⟨r8, μ7, e9, hf⟩ := bn_some hf
  refine r_callVn C hw (K := [(0, s0)]) ok12 t0 (c_X12_codes l D b t0 e9) mi_X12_codes in_X12_codes se_X12_codes kl_12_143 rfl rfl (lvh_sz hl) ⟨by simp only [rm]; omega, by simp only [rm]; omega⟩ (Kr := []) rfl (Nat.le_of_ble_eq_true rfl) dX12_readSum_53 (fun H locs hw => ?_)
  refine r_goto C (tgt := 5) (by decide) dX12_readSum_56 ?_
  exact h5 _ _ _ _ _ _ hf t0 hw (lvh_sub hl [1, 2] rfl)
set_option maxHeartbeats 4000000 in
set_option maxRecDepth 20000 in
theorem w_X12_readSum_23 (C : Cx p s m args meth c D b cX12_readSum 3 RX12 (none)) {r : Int} {μ' : Mem} (rec : Nat → Int → Int → Mem → Option (Int × Mem)) (h_0 : ∀ (x0 x1 : Int) (μ μ' : Mem) (r : Int), isK x0 12 → rec 0 x0 x1 μ = some (r, μ') → Ctr l D b yX12_readAtom cX12_readAtom 2 (none) (n0 + 10) [(2, x0), (0, x1)] μ none μ') (h_1 : ∀ (x0 x1 : Int) (μ μ' : Mem) (r : Int), isK x0 12 → rec 1 x0 x1 μ = some (r, μ') → Ctr l D b yX12_readBoth cX12_readBoth 2 (none) (n0 + 10) [(2, x0), (0, x1)] μ none μ') (h_2 : ∀ (x0 x1 : Int) (μ μ' : Mem) (r : Int), isK x0 12 → rec 2 x0 x1 μ = some (r, μ') → Ctr l D b yX12_readIf cX12_readIf 2 (none) (n0 + 10) [(2, x0), (0, x1)] μ none μ') (h_3 : ∀ (x0 x1 : Int) (μ μ' : Mem) (r : Int), isK x0 12 → rec 3 x0 x1 μ = some (r, μ') → Ctr l D b yX12_readSum cX12_readSum 3 (none) (n0 + 10) [(2, x0), (0, x1)] μ none μ') (h_4 : ∀ (x0 x1 : Int) (μ μ' : Mem) (r : Int), isK x0 12 → rec 4 x0 x1 μ = some (r, μ') → Ctr l D b yX12_readTerm cX12_readTerm 2 (none) (n0 + 10) [(2, x0), (0, x1)] μ none μ') (h_5 : ∀ (x0 x1 : Int) (μ μ' : Mem) (r : Int), isK x0 12 → rec 5 x0 x1 μ = some (r, μ') → Ctr l D b yX12_readTruth cX12_readTruth 2 (none) (n0 + 10) [(2, x0), (0, x1)] μ none μ') (h_6 : ∀ (x0 x1 : Int) (μ μ' : Mem) (r : Int), isK x0 12 → rec 6 x0 x1 μ = some (r, μ') → Ctr l D b yX12_readUnit cX12_readUnit 3 (none) (n0 + 10) [(2, x0), (0, x1)] μ none μ') (k5 : Int → Int → Mem → Option (Int × Mem)) (h5 : ∀ (x0 x1 : Int) (μ : Mem) (H : Heap) (locs : List Loc) (ls : Array Slot), k5 x0 x1 μ = some (r, μ') → isK x0 12 → Hw D b μ s.heap H locs → lvh b ls 3 [(0, 2, x0), (1, 0, x1)] → W p l e (rm (n0 + 1 + 10)) s m args below meth c H locs 0 0 (QM below args s D b none μ') (F0 m 5 ls [])) {x0 x1 : Int} {μ : Mem} {H : Heap} {locs : List Loc} {ls : Array Slot} (hf : f_X12_readSum_j23 rec k5 x0 x1 μ = some (r, μ')) (t0 : isK x0 12) (hw : Hw D b μ s.heap H locs) (hl : lvh b ls 3 [(0, 2, x0), (1, 0, x1)]) : W p l e (rm (n0 + 1 + 10)) s m args below meth c H locs 0 0 (QM below args s D b none μ') (F0 m 23 ls []) := by
  unfold f_X12_readSum_j23 at hf
  refine r_aload_n C hl (kx := 0) rfl rfl dX12_readSum_23 ?_
  refine gf_12_102 C hw t0 dX12_readSum_24 ?_
  refine r_bipush C (by decide) dX12_readSum_27 ?_
  refine r_icmp_ne C (tgt := 38) (by decide) dX12_readSum_29 (fun c1 => ?_) (fun c1 => ?_)
  · have hf := ite_f c1 hf
    refine r_sipush C (by decide) dX12_readSum_38 ?_
    exact w_X12_readSum_41 C _ h_0 h_1 h_2 h_3 h_4 h_5 h_6 _ h5 hf t0 hw (lvh_sub hl [0, 1] rfl)
  · have hf := ite_t c1 hf
    refine r_sipush C (by decide) dX12_readSum_32 ?_
    refine r_goto C (tgt := 41) (by decide) dX12_readSum_35 ?_
    exact w_X12_readSum_41 C _ h_0 h_1 h_2 h_3 h_4 h_5 h_6 _ h5 hf t0 hw (lvh_sub hl [0, 1] rfl)
set_option maxHeartbeats 4000000 in
set_option maxRecDepth 20000 in
theorem w_X12_readSum_5 (C : Cx p s m args meth c D b cX12_readSum 3 RX12 (none)) {r : Int} {μ' : Mem} (rec : Nat → Int → Int → Mem → Option (Int × Mem)) (h_0 : ∀ (x0 x1 : Int) (μ μ' : Mem) (r : Int), isK x0 12 → rec 0 x0 x1 μ = some (r, μ') → Ctr l D b yX12_readAtom cX12_readAtom 2 (none) (n0 + 10) [(2, x0), (0, x1)] μ none μ') (h_1 : ∀ (x0 x1 : Int) (μ μ' : Mem) (r : Int), isK x0 12 → rec 1 x0 x1 μ = some (r, μ') → Ctr l D b yX12_readBoth cX12_readBoth 2 (none) (n0 + 10) [(2, x0), (0, x1)] μ none μ') (h_2 : ∀ (x0 x1 : Int) (μ μ' : Mem) (r : Int), isK x0 12 → rec 2 x0 x1 μ = some (r, μ') → Ctr l D b yX12_readIf cX12_readIf 2 (none) (n0 + 10) [(2, x0), (0, x1)] μ none μ') (h_3 : ∀ (x0 x1 : Int) (μ μ' : Mem) (r : Int), isK x0 12 → rec 3 x0 x1 μ = some (r, μ') → Ctr l D b yX12_readSum cX12_readSum 3 (none) (n0 + 10) [(2, x0), (0, x1)] μ none μ') (h_4 : ∀ (x0 x1 : Int) (μ μ' : Mem) (r : Int), isK x0 12 → rec 4 x0 x1 μ = some (r, μ') → Ctr l D b yX12_readTerm cX12_readTerm 2 (none) (n0 + 10) [(2, x0), (0, x1)] μ none μ') (h_5 : ∀ (x0 x1 : Int) (μ μ' : Mem) (r : Int), isK x0 12 → rec 5 x0 x1 μ = some (r, μ') → Ctr l D b yX12_readTruth cX12_readTruth 2 (none) (n0 + 10) [(2, x0), (0, x1)] μ none μ') (h_6 : ∀ (x0 x1 : Int) (μ μ' : Mem) (r : Int), isK x0 12 → rec 6 x0 x1 μ = some (r, μ') → Ctr l D b yX12_readUnit cX12_readUnit 3 (none) (n0 + 10) [(2, x0), (0, x1)] μ none μ') : ∀ (n : Nat) (x0 x1 : Int) (μ : Mem) (H : Heap) (locs : List Loc) (ls : Array Slot), f_X12_readSum_w5 rec n x0 x1 μ = some (r, μ') → isK x0 12 → Hw D b μ s.heap H locs → lvh b ls 3 [(0, 2, x0), (1, 0, x1)] → W p l e (rm (n0 + 1 + 10)) s m args below meth c H locs 0 0 (QM below args s D b none μ') (F0 m 5 ls []) := by
  intro n
  induction n with
  | zero => intro x0 x1 μ H locs ls hf; cases hf
  | succ n ih =>
    intro x0 x1 μ H locs ls hf t0 hw hl
    rw [f_X12_readSum_w5.eq_2] at hf
    refine r_aload_n C hl (kx := 0) rfl rfl dX12_readSum_5 ?_
    refine r_bipush C (by decide) dX12_readSum_6 ?_
    obtain ⟨r2, μ1, e3, hf⟩ := bn_some hf
    refine r_callVv C hw (K := [(0, 32)]) ok12 t0 (c_X12_is l D b t0 e3) mi_X12_is in_X12_is se_X12_is kl_12_126 rfl rfl (lvh_sz hl) ⟨by simp only [rm]; omega, by simp only [rm]; omega⟩ (Kr := []) rfl (Nat.le_of_ble_eq_true rfl) dX12_readSum_8 (fun H locs hw => ?_)
    refine r_if_ne C (tgt := 23) (by decide) dX12_readSum_11 (fun c4 => ?_) (fun c4 => ?_)
    · have hf := ite_f c4 hf
      exact w_X12_readSum_23 C _ h_0 h_1 h_2 h_3 h_4 h_5 h_6 _ ih hf t0 hw (lvh_sub hl [0, 1] rfl)
    · have hf := ite_t c4 hf
      refine r_aload_n C hl (kx := 0) rfl rfl dX12_readSum_14 ?_
      refine r_bipush C (by decide) dX12_readSum_15 ?_
      obtain ⟨r6, μ5, e7, hf⟩ := bn_some hf
      refine r_callVv C hw (K := [(0, 33)]) ok12 t0 (c_X12_is l D b t0 e7) mi_X12_is in_X12_is se_X12_is kl_12_126 rfl rfl (lvh_sz hl) ⟨by simp only [rm]; omega, by simp only [rm]; omega⟩ (Kr := []) rfl (Nat.le_of_ble_eq_true rfl) dX12_readSum_17 (fun H locs hw => ?_)
      refine r_if_eq C (tgt := 59) (by decide) dX12_readSum_20 (fun c8 => ?_) (fun c8 => ?_)
      · have hf := ite_t c8 hf
        exact r_vret C hw hf dX12_readSum_59
      · have hf := ite_f c8 hf
        exact w_X12_readSum_23 C _ h_0 h_1 h_2 h_3 h_4 h_5 h_6 _ ih hf t0 hw (lvh_sub hl [0, 1] rfl)
set_option maxHeartbeats 4000000 in
set_option maxRecDepth 20000 in
theorem w_X12_readSum_0 (C : Cx p s m args meth c D b cX12_readSum 3 RX12 (none)) {r : Int} {μ' : Mem} (rec : Nat → Int → Int → Mem → Option (Int × Mem)) (h_0 : ∀ (x0 x1 : Int) (μ μ' : Mem) (r : Int), isK x0 12 → rec 0 x0 x1 μ = some (r, μ') → Ctr l D b yX12_readAtom cX12_readAtom 2 (none) (n0 + 10) [(2, x0), (0, x1)] μ none μ') (h_1 : ∀ (x0 x1 : Int) (μ μ' : Mem) (r : Int), isK x0 12 → rec 1 x0 x1 μ = some (r, μ') → Ctr l D b yX12_readBoth cX12_readBoth 2 (none) (n0 + 10) [(2, x0), (0, x1)] μ none μ') (h_2 : ∀ (x0 x1 : Int) (μ μ' : Mem) (r : Int), isK x0 12 → rec 2 x0 x1 μ = some (r, μ') → Ctr l D b yX12_readIf cX12_readIf 2 (none) (n0 + 10) [(2, x0), (0, x1)] μ none μ') (h_3 : ∀ (x0 x1 : Int) (μ μ' : Mem) (r : Int), isK x0 12 → rec 3 x0 x1 μ = some (r, μ') → Ctr l D b yX12_readSum cX12_readSum 3 (none) (n0 + 10) [(2, x0), (0, x1)] μ none μ') (h_4 : ∀ (x0 x1 : Int) (μ μ' : Mem) (r : Int), isK x0 12 → rec 4 x0 x1 μ = some (r, μ') → Ctr l D b yX12_readTerm cX12_readTerm 2 (none) (n0 + 10) [(2, x0), (0, x1)] μ none μ') (h_5 : ∀ (x0 x1 : Int) (μ μ' : Mem) (r : Int), isK x0 12 → rec 5 x0 x1 μ = some (r, μ') → Ctr l D b yX12_readTruth cX12_readTruth 2 (none) (n0 + 10) [(2, x0), (0, x1)] μ none μ') (h_6 : ∀ (x0 x1 : Int) (μ μ' : Mem) (r : Int), isK x0 12 → rec 6 x0 x1 μ = some (r, μ') → Ctr l D b yX12_readUnit cX12_readUnit 3 (none) (n0 + 10) [(2, x0), (0, x1)] μ none μ') {x0 x1 : Int} {μ : Mem} {H : Heap} {locs : List Loc} {ls : Array Slot} (hf : b_X12_readSum rec x0 x1 μ = some (r, μ')) (t0 : isK x0 12) (hw : Hw D b μ s.heap H locs) (hl : lvh b ls 3 [(0, 2, x0), (1, 0, x1)]) : W p l e (rm (n0 + 1 + 10)) s m args below meth c H locs 0 0 (QM below args s D b none μ') (F0 m 0 ls []) := by
  unfold b_X12_readSum at hf
  refine r_aload_n C hl (kx := 0) rfl rfl dX12_readSum_0 ?_
  refine r_iload_n C hl (kx := 1) rfl rfl dX12_readSum_1 ?_
  obtain ⟨r2, μ1, e3, hf⟩ := bn_some hf
  refine r_callVn C hw (K := [(0, x1)]) ok12 t0 (h_4 _ _ _ _ _ t0 e3) mi_X12_readTerm in_X12_readTerm se_X12_readTerm kl_12_167 rfl rfl (lvh_sz hl) ⟨by simp only [rm]; omega, by simp only [rm]; omega⟩ (Kr := []) rfl (Nat.le_of_ble_eq_true rfl) dX12_readSum_2 (fun H locs hw => ?_)
  exact w_X12_readSum_5 C _ h_0 h_1 h_2 h_3 h_4 h_5 h_6 FU _ _ _ _ _ _ hf t0 hw (lvh_sub hl [0, 1] rfl)
set_option maxHeartbeats 4000000 in
set_option maxRecDepth 20000 in
theorem w_X12_readTerm_5 (C : Cx p s m args meth c D b cX12_readTerm 2 RX12 (none)) {r : Int} {μ' : Mem} (rec : Nat → Int → Int → Mem → Option (Int × Mem)) (h_0 : ∀ (x0 x1 : Int) (μ μ' : Mem) (r : Int), isK x0 12 → rec 0 x0 x1 μ = some (r, μ') → Ctr l D b yX12_readAtom cX12_readAtom 2 (none) (n0 + 10) [(2, x0), (0, x1)] μ none μ') (h_1 : ∀ (x0 x1 : Int) (μ μ' : Mem) (r : Int), isK x0 12 → rec 1 x0 x1 μ = some (r, μ') → Ctr l D b yX12_readBoth cX12_readBoth 2 (none) (n0 + 10) [(2, x0), (0, x1)] μ none μ') (h_2 : ∀ (x0 x1 : Int) (μ μ' : Mem) (r : Int), isK x0 12 → rec 2 x0 x1 μ = some (r, μ') → Ctr l D b yX12_readIf cX12_readIf 2 (none) (n0 + 10) [(2, x0), (0, x1)] μ none μ') (h_3 : ∀ (x0 x1 : Int) (μ μ' : Mem) (r : Int), isK x0 12 → rec 3 x0 x1 μ = some (r, μ') → Ctr l D b yX12_readSum cX12_readSum 3 (none) (n0 + 10) [(2, x0), (0, x1)] μ none μ') (h_4 : ∀ (x0 x1 : Int) (μ μ' : Mem) (r : Int), isK x0 12 → rec 4 x0 x1 μ = some (r, μ') → Ctr l D b yX12_readTerm cX12_readTerm 2 (none) (n0 + 10) [(2, x0), (0, x1)] μ none μ') (h_5 : ∀ (x0 x1 : Int) (μ μ' : Mem) (r : Int), isK x0 12 → rec 5 x0 x1 μ = some (r, μ') → Ctr l D b yX12_readTruth cX12_readTruth 2 (none) (n0 + 10) [(2, x0), (0, x1)] μ none μ') (h_6 : ∀ (x0 x1 : Int) (μ μ' : Mem) (r : Int), isK x0 12 → rec 6 x0 x1 μ = some (r, μ') → Ctr l D b yX12_readUnit cX12_readUnit 3 (none) (n0 + 10) [(2, x0), (0, x1)] μ none μ') : ∀ (n : Nat) (x0 x1 : Int) (μ : Mem) (H : Heap) (locs : List Loc) (ls : Array Slot), f_X12_readTerm_w5 rec n x0 x1 μ = some (r, μ') → isK x0 12 → Hw D b μ s.heap H locs → lvh b ls 2 [(0, 2, x0), (1, 0, x1)] → W p l e (rm (n0 + 1 + 10)) s m args below meth c H locs 0 0 (QM below args s D b none μ') (F0 m 5 ls []) := by
  intro n
  induction n with
  | zero => intro x0 x1 μ H locs ls hf; cases hf
  | succ n ih =>
    intro x0 x1 μ H locs ls hf t0 hw hl
    rw [f_X12_readTerm_w5.eq_2] at hf
    refine r_aload_n C hl (kx := 0) rfl rfl dX12_readTerm_5 ?_
    refine r_bipush C (by decide) dX12_readTerm_6 ?_
    obtain ⟨r2, μ1, e3, hf⟩ := bn_some hf
    refine r_callVv C hw (K := [(0, 34)]) ok12 t0 (c_X12_eats l D b t0 e3) mi_X12_eats in_X12_eats se_X12_eats kl_12_155 rfl rfl (lvh_sz hl) ⟨by simp only [rm]; omega, by simp only [rm]; omega⟩ (Kr := []) rfl (Nat.le_of_ble_eq_true rfl) dX12_readTerm_8 (fun H locs hw => ?_)
    refine r_if_eq C (tgt := 29) (by decide) dX12_readTerm_11 (fun c4 => ?_) (fun c4 => ?_)
    · have hf := ite_t c4 hf
      exact r_vret C hw hf dX12_readTerm_29
    · have hf := ite_f c4 hf
      refine r_aload_n C hl (kx := 0) rfl rfl dX12_readTerm_14 ?_
      refine r_iload_n C hl (kx := 1) rfl rfl dX12_readTerm_15 ?_
      obtain ⟨r6, μ5, e7, hf⟩ := bn_some hf
      refine r_callVn C hw (K := [(0, x1)]) ok12 t0 (h_0 _ _ _ _ _ t0 e7) mi_X12_readAtom in_X12_readAtom se_X12_readAtom kl_12_164 rfl rfl (lvh_sz hl) ⟨by simp only [rm]; omega, by simp only [rm]; omega⟩ (Kr := []) rfl (Nat.le_of_ble_eq_true rfl) dX12_readTerm_16 (fun H locs hw => ?_)
      refine r_aload_n C hl (kx := 0) rfl rfl dX12_readTerm_19 ?_
      refine r_sipush C (by decide) dX12_readTerm_20 ?_
      obtain ⟨r9, μ8, e10, hf⟩ := bn_some hf
      refine r_callVn C hw (K := [(0, 3002)]) ok12 t0 (c_X12_codes l D b t0 e10) mi_X12_codes in_X12_codes se_X12_codes kl_12_143 rfl rfl (lvh_sz hl) ⟨by simp only [rm]; omega, by simp only [rm]; omega⟩ (Kr := []) rfl (Nat.le_of_ble_eq_true rfl) dX12_readTerm_23 (fun H locs hw => ?_)
      refine r_goto C (tgt := 5) (by decide) dX12_readTerm_26 ?_
      exact ih _ _ _ _ _ _ hf t0 hw (lvh_sub hl [0, 1] rfl)
set_option maxHeartbeats 4000000 in
set_option maxRecDepth 20000 in
theorem w_X12_readTerm_0 (C : Cx p s m args meth c D b cX12_readTerm 2 RX12 (none)) {r : Int} {μ' : Mem} (rec : Nat → Int → Int → Mem → Option (Int × Mem)) (h_0 : ∀ (x0 x1 : Int) (μ μ' : Mem) (r : Int), isK x0 12 → rec 0 x0 x1 μ = some (r, μ') → Ctr l D b yX12_readAtom cX12_readAtom 2 (none) (n0 + 10) [(2, x0), (0, x1)] μ none μ') (h_1 : ∀ (x0 x1 : Int) (μ μ' : Mem) (r : Int), isK x0 12 → rec 1 x0 x1 μ = some (r, μ') → Ctr l D b yX12_readBoth cX12_readBoth 2 (none) (n0 + 10) [(2, x0), (0, x1)] μ none μ') (h_2 : ∀ (x0 x1 : Int) (μ μ' : Mem) (r : Int), isK x0 12 → rec 2 x0 x1 μ = some (r, μ') → Ctr l D b yX12_readIf cX12_readIf 2 (none) (n0 + 10) [(2, x0), (0, x1)] μ none μ') (h_3 : ∀ (x0 x1 : Int) (μ μ' : Mem) (r : Int), isK x0 12 → rec 3 x0 x1 μ = some (r, μ') → Ctr l D b yX12_readSum cX12_readSum 3 (none) (n0 + 10) [(2, x0), (0, x1)] μ none μ') (h_4 : ∀ (x0 x1 : Int) (μ μ' : Mem) (r : Int), isK x0 12 → rec 4 x0 x1 μ = some (r, μ') → Ctr l D b yX12_readTerm cX12_readTerm 2 (none) (n0 + 10) [(2, x0), (0, x1)] μ none μ') (h_5 : ∀ (x0 x1 : Int) (μ μ' : Mem) (r : Int), isK x0 12 → rec 5 x0 x1 μ = some (r, μ') → Ctr l D b yX12_readTruth cX12_readTruth 2 (none) (n0 + 10) [(2, x0), (0, x1)] μ none μ') (h_6 : ∀ (x0 x1 : Int) (μ μ' : Mem) (r : Int), isK x0 12 → rec 6 x0 x1 μ = some (r, μ') → Ctr l D b yX12_readUnit cX12_readUnit 3 (none) (n0 + 10) [(2, x0), (0, x1)] μ none μ') {x0 x1 : Int} {μ : Mem} {H : Heap} {locs : List Loc} {ls : Array Slot} (hf : b_X12_readTerm rec x0 x1 μ = some (r, μ')) (t0 : isK x0 12) (hw : Hw D b μ s.heap H locs) (hl : lvh b ls 2 [(0, 2, x0), (1, 0, x1)]) : W p l e (rm (n0 + 1 + 10)) s m args below meth c H locs 0 0 (QM below args s D b none μ') (F0 m 0 ls []) := by
  unfold b_X12_readTerm at hf
  refine r_aload_n C hl (kx := 0) rfl rfl dX12_readTerm_0 ?_
  refine r_iload_n C hl (kx := 1) rfl rfl dX12_readTerm_1 ?_
  obtain ⟨r2, μ1, e3, hf⟩ := bn_some hf
  refine r_callVn C hw (K := [(0, x1)]) ok12 t0 (h_0 _ _ _ _ _ t0 e3) mi_X12_readAtom in_X12_readAtom se_X12_readAtom kl_12_164 rfl rfl (lvh_sz hl) ⟨by simp only [rm]; omega, by simp only [rm]; omega⟩ (Kr := []) rfl (Nat.le_of_ble_eq_true rfl) dX12_readTerm_2 (fun H locs hw => ?_)
  exact w_X12_readTerm_5 C _ h_0 h_1 h_2 h_3 h_4 h_5 h_6 FU _ _ _ _ _ _ hf t0 hw (lvh_sub hl [0, 1] rfl)
set_option maxHeartbeats 4000000 in
set_option maxRecDepth 20000 in
theorem w_X12_readTruth_5 (C : Cx p s m args meth c D b cX12_readTruth 2 RX12 (none)) {r : Int} {μ' : Mem} (rec : Nat → Int → Int → Mem → Option (Int × Mem)) (h_0 : ∀ (x0 x1 : Int) (μ μ' : Mem) (r : Int), isK x0 12 → rec 0 x0 x1 μ = some (r, μ') → Ctr l D b yX12_readAtom cX12_readAtom 2 (none) (n0 + 10) [(2, x0), (0, x1)] μ none μ') (h_1 : ∀ (x0 x1 : Int) (μ μ' : Mem) (r : Int), isK x0 12 → rec 1 x0 x1 μ = some (r, μ') → Ctr l D b yX12_readBoth cX12_readBoth 2 (none) (n0 + 10) [(2, x0), (0, x1)] μ none μ') (h_2 : ∀ (x0 x1 : Int) (μ μ' : Mem) (r : Int), isK x0 12 → rec 2 x0 x1 μ = some (r, μ') → Ctr l D b yX12_readIf cX12_readIf 2 (none) (n0 + 10) [(2, x0), (0, x1)] μ none μ') (h_3 : ∀ (x0 x1 : Int) (μ μ' : Mem) (r : Int), isK x0 12 → rec 3 x0 x1 μ = some (r, μ') → Ctr l D b yX12_readSum cX12_readSum 3 (none) (n0 + 10) [(2, x0), (0, x1)] μ none μ') (h_4 : ∀ (x0 x1 : Int) (μ μ' : Mem) (r : Int), isK x0 12 → rec 4 x0 x1 μ = some (r, μ') → Ctr l D b yX12_readTerm cX12_readTerm 2 (none) (n0 + 10) [(2, x0), (0, x1)] μ none μ') (h_5 : ∀ (x0 x1 : Int) (μ μ' : Mem) (r : Int), isK x0 12 → rec 5 x0 x1 μ = some (r, μ') → Ctr l D b yX12_readTruth cX12_readTruth 2 (none) (n0 + 10) [(2, x0), (0, x1)] μ none μ') (h_6 : ∀ (x0 x1 : Int) (μ μ' : Mem) (r : Int), isK x0 12 → rec 6 x0 x1 μ = some (r, μ') → Ctr l D b yX12_readUnit cX12_readUnit 3 (none) (n0 + 10) [(2, x0), (0, x1)] μ none μ') : ∀ (n : Nat) (x0 x1 : Int) (μ : Mem) (H : Heap) (locs : List Loc) (ls : Array Slot), f_X12_readTruth_w5 rec n x0 x1 μ = some (r, μ') → isK x0 12 → Hw D b μ s.heap H locs → lvh b ls 2 [(0, 2, x0), (1, 0, x1)] → W p l e (rm (n0 + 1 + 10)) s m args below meth c H locs 0 0 (QM below args s D b none μ') (F0 m 5 ls []) := by
  intro n
  induction n with
  | zero => intro x0 x1 μ H locs ls hf; cases hf
  | succ n ih =>
    intro x0 x1 μ H locs ls hf t0 hw hl
    rw [f_X12_readTruth_w5.eq_2] at hf
    refine r_aload_n C hl (kx := 0) rfl rfl dX12_readTruth_5 ?_
    refine r_bipush C (by decide) dX12_readTruth_6 ?_
    obtain ⟨r2, μ1, e3, hf⟩ := bn_some hf
    refine r_callVv C hw (K := [(0, 20)]) ok12 t0 (c_X12_eats l D b t0 e3) mi_X12_eats in_X12_eats se_X12_eats kl_12_155 rfl rfl (lvh_sz hl) ⟨by simp only [rm]; omega, by simp only [rm]; omega⟩ (Kr := []) rfl (Nat.le_of_ble_eq_true rfl) dX12_readTruth_8 (fun H locs hw => ?_)
    refine r_if_eq C (tgt := 29) (by decide) dX12_readTruth_11 (fun c4 => ?_) (fun c4 => ?_)
    · have hf := ite_t c4 hf
      exact r_vret C hw hf dX12_readTruth_29
    · have hf := ite_f c4 hf
      refine r_aload_n C hl (kx := 0) rfl rfl dX12_readTruth_14 ?_
      refine r_iload_n C hl (kx := 1) rfl rfl dX12_readTruth_15 ?_
      obtain ⟨r6, μ5, e7, hf⟩ := bn_some hf
      refine r_callVn C hw (K := [(0, x1)]) ok12 t0 (h_1 _ _ _ _ _ t0 e7) mi_X12_readBoth in_X12_readBoth se_X12_readBoth kl_12_173 rfl rfl (lvh_sz hl) ⟨by simp only [rm]; omega, by simp only [rm]; omega⟩ (Kr := []) rfl (Nat.le_of_ble_eq_true rfl) dX12_readTruth_16 (fun H locs hw => ?_)
      refine r_aload_n C hl (kx := 0) rfl rfl dX12_readTruth_19 ?_
      refine r_sipush C (by decide) dX12_readTruth_20 ?_
      obtain ⟨r9, μ8, e10, hf⟩ := bn_some hf
      refine r_callVn C hw (K := [(0, 3008)]) ok12 t0 (c_X12_codes l D b t0 e10) mi_X12_codes in_X12_codes se_X12_codes kl_12_143 rfl rfl (lvh_sz hl) ⟨by simp only [rm]; omega, by simp only [rm]; omega⟩ (Kr := []) rfl (Nat.le_of_ble_eq_true rfl) dX12_readTruth_23 (fun H locs hw => ?_)
      refine r_goto C (tgt := 5) (by decide) dX12_readTruth_26 ?_
      exact ih _ _ _ _ _ _ hf t0 hw (lvh_sub hl [0, 1] rfl)
set_option maxHeartbeats 4000000 in
set_option maxRecDepth 20000 in
theorem w_X12_readTruth_0 (C : Cx p s m args meth c D b cX12_readTruth 2 RX12 (none)) {r : Int} {μ' : Mem} (rec : Nat → Int → Int → Mem → Option (Int × Mem)) (h_0 : ∀ (x0 x1 : Int) (μ μ' : Mem) (r : Int), isK x0 12 → rec 0 x0 x1 μ = some (r, μ') → Ctr l D b yX12_readAtom cX12_readAtom 2 (none) (n0 + 10) [(2, x0), (0, x1)] μ none μ') (h_1 : ∀ (x0 x1 : Int) (μ μ' : Mem) (r : Int), isK x0 12 → rec 1 x0 x1 μ = some (r, μ') → Ctr l D b yX12_readBoth cX12_readBoth 2 (none) (n0 + 10) [(2, x0), (0, x1)] μ none μ') (h_2 : ∀ (x0 x1 : Int) (μ μ' : Mem) (r : Int), isK x0 12 → rec 2 x0 x1 μ = some (r, μ') → Ctr l D b yX12_readIf cX12_readIf 2 (none) (n0 + 10) [(2, x0), (0, x1)] μ none μ') (h_3 : ∀ (x0 x1 : Int) (μ μ' : Mem) (r : Int), isK x0 12 → rec 3 x0 x1 μ = some (r, μ') → Ctr l D b yX12_readSum cX12_readSum 3 (none) (n0 + 10) [(2, x0), (0, x1)] μ none μ') (h_4 : ∀ (x0 x1 : Int) (μ μ' : Mem) (r : Int), isK x0 12 → rec 4 x0 x1 μ = some (r, μ') → Ctr l D b yX12_readTerm cX12_readTerm 2 (none) (n0 + 10) [(2, x0), (0, x1)] μ none μ') (h_5 : ∀ (x0 x1 : Int) (μ μ' : Mem) (r : Int), isK x0 12 → rec 5 x0 x1 μ = some (r, μ') → Ctr l D b yX12_readTruth cX12_readTruth 2 (none) (n0 + 10) [(2, x0), (0, x1)] μ none μ') (h_6 : ∀ (x0 x1 : Int) (μ μ' : Mem) (r : Int), isK x0 12 → rec 6 x0 x1 μ = some (r, μ') → Ctr l D b yX12_readUnit cX12_readUnit 3 (none) (n0 + 10) [(2, x0), (0, x1)] μ none μ') {x0 x1 : Int} {μ : Mem} {H : Heap} {locs : List Loc} {ls : Array Slot} (hf : b_X12_readTruth rec x0 x1 μ = some (r, μ')) (t0 : isK x0 12) (hw : Hw D b μ s.heap H locs) (hl : lvh b ls 2 [(0, 2, x0), (1, 0, x1)]) : W p l e (rm (n0 + 1 + 10)) s m args below meth c H locs 0 0 (QM below args s D b none μ') (F0 m 0 ls []) := by
  unfold b_X12_readTruth at hf
  refine r_aload_n C hl (kx := 0) rfl rfl dX12_readTruth_0 ?_
  refine r_iload_n C hl (kx := 1) rfl rfl dX12_readTruth_1 ?_
  obtain ⟨r2, μ1, e3, hf⟩ := bn_some hf
  refine r_callVn C hw (K := [(0, x1)]) ok12 t0 (h_1 _ _ _ _ _ t0 e3) mi_X12_readBoth in_X12_readBoth se_X12_readBoth kl_12_173 rfl rfl (lvh_sz hl) ⟨by simp only [rm]; omega, by simp only [rm]; omega⟩ (Kr := []) rfl (Nat.le_of_ble_eq_true rfl) dX12_readTruth_2 (fun H locs hw => ?_)
  exact w_X12_readTruth_5 C _ h_0 h_1 h_2 h_3 h_4 h_5 h_6 FU _ _ _ _ _ _ hf t0 hw (lvh_sub hl [0, 1] rfl)
set_option maxHeartbeats 4000000 in
set_option maxRecDepth 20000 in
theorem w_X12_readUnit_151 (C : Cx p s m args meth c D b cX12_readUnit 3 RX12 (none)) {r : Int} {μ' : Mem} (rec : Nat → Int → Int → Mem → Option (Int × Mem)) (h_0 : ∀ (x0 x1 : Int) (μ μ' : Mem) (r : Int), isK x0 12 → rec 0 x0 x1 μ = some (r, μ') → Ctr l D b yX12_readAtom cX12_readAtom 2 (none) (n0 + 10) [(2, x0), (0, x1)] μ none μ') (h_1 : ∀ (x0 x1 : Int) (μ μ' : Mem) (r : Int), isK x0 12 → rec 1 x0 x1 μ = some (r, μ') → Ctr l D b yX12_readBoth cX12_readBoth 2 (none) (n0 + 10) [(2, x0), (0, x1)] μ none μ') (h_2 : ∀ (x0 x1 : Int) (μ μ' : Mem) (r : Int), isK x0 12 → rec 2 x0 x1 μ = some (r, μ') → Ctr l D b yX12_readIf cX12_readIf 2 (none) (n0 + 10) [(2, x0), (0, x1)] μ none μ') (h_3 : ∀ (x0 x1 : Int) (μ μ' : Mem) (r : Int), isK x0 12 → rec 3 x0 x1 μ = some (r, μ') → Ctr l D b yX12_readSum cX12_readSum 3 (none) (n0 + 10) [(2, x0), (0, x1)] μ none μ') (h_4 : ∀ (x0 x1 : Int) (μ μ' : Mem) (r : Int), isK x0 12 → rec 4 x0 x1 μ = some (r, μ') → Ctr l D b yX12_readTerm cX12_readTerm 2 (none) (n0 + 10) [(2, x0), (0, x1)] μ none μ') (h_5 : ∀ (x0 x1 : Int) (μ μ' : Mem) (r : Int), isK x0 12 → rec 5 x0 x1 μ = some (r, μ') → Ctr l D b yX12_readTruth cX12_readTruth 2 (none) (n0 + 10) [(2, x0), (0, x1)] μ none μ') (h_6 : ∀ (x0 x1 : Int) (μ μ' : Mem) (r : Int), isK x0 12 → rec 6 x0 x1 μ = some (r, μ') → Ctr l D b yX12_readUnit cX12_readUnit 3 (none) (n0 + 10) [(2, x0), (0, x1)] μ none μ') {x0 x1 x2 : Int} {μ : Mem} {H : Heap} {locs : List Loc} {ls : Array Slot} (hf : f_X12_readUnit_j151 rec x0 x1 x2 μ = some (r, μ')) (t0 : isK x0 12) (hw : Hw D b μ s.heap H locs) (hl : lvh b ls 3 [(0, 2, x0), (1, 0, x1), (2, 0, x2)]) : W p l e (rm (n0 + 1 + 10)) s m args below meth c H locs 0 0 (QM below args s D b none μ') (F0 m 151 ls []) := by
  unfold f_X12_readUnit_j151 at hf
  refine r_aload_n C hl (kx := 0) rfl rfl dX12_readUnit_151 ?_
  refine r_iload_n C hl (kx := 1) rfl rfl dX12_readUnit_152 ?_
  obtain ⟨r2, μ1, e3, hf⟩ := bn_some hf
  refine r_callVn C hw (K := [(0, x1)]) ok12 t0 (h_3 _ _ _ _ _ t0 e3) mi_X12_readSum in_X12_readSum se_X12_readSum kl_12_152 rfl rfl (lvh_sz hl) ⟨by simp only [rm]; omega, by simp only [rm]; omega⟩ (Kr := []) rfl (Nat.le_of_ble_eq_true rfl) dX12_readUnit_153 (fun H locs hw => ?_)
  refine r_aload_n C hl (kx := 0) rfl rfl dX12_readUnit_156 ?_
  refine r_iload_n C hl (kx := 2) rfl rfl dX12_readUnit_157 ?_
  obtain ⟨r5, μ4, e6, hf⟩ := bn_some hf
  refine r_callVn C hw (K := [(0, x2)]) ok12 t0 (c_X12_codes l D b t0 e6) mi_X12_codes in_X12_codes se_X12_codes kl_12_143 rfl rfl (lvh_sz hl) ⟨by simp only [rm]; omega, by simp only [rm]; omega⟩ (Kr := []) rfl (Nat.le_of_ble_eq_true rfl) dX12_readUnit_158 (fun H locs hw => ?_)
  exact r_vret C hw hf dX12_readUnit_161
set_option maxHeartbeats 4000000 in
set_option maxRecDepth 20000 in
theorem w_X12_readUnit_139 (C : Cx p s m args meth c D b cX12_readUnit 3 RX12 (none)) {r : Int} {μ' : Mem} (rec : Nat → Int → Int → Mem → Option (Int × Mem)) (h_0 : ∀ (x0 x1 : Int) (μ μ' : Mem) (r : Int), isK x0 12 → rec 0 x0 x1 μ = some (r, μ') → Ctr l D b yX12_readAtom cX12_readAtom 2 (none) (n0 + 10) [(2, x0), (0, x1)] μ none μ') (h_1 : ∀ (x0 x1 : Int) (μ μ' : Mem) (r : Int), isK x0 12 → rec 1 x0 x1 μ = some (r, μ') → Ctr l D b yX12_readBoth cX12_readBoth 2 (none) (n0 + 10) [(2, x0), (0, x1)] μ none μ') (h_2 : ∀ (x0 x1 : Int) (μ μ' : Mem) (r : Int), isK x0 12 → rec 2 x0 x1 μ = some (r, μ') → Ctr l D b yX12_readIf cX12_readIf 2 (none) (n0 + 10) [(2, x0), (0, x1)] μ none μ') (h_3 : ∀ (x0 x1 : Int) (μ μ' : Mem) (r : Int), isK x0 12 → rec 3 x0 x1 μ = some (r, μ') → Ctr l D b yX12_readSum cX12_readSum 3 (none) (n0 + 10) [(2, x0), (0, x1)] μ none μ') (h_4 : ∀ (x0 x1 : Int) (μ μ' : Mem) (r : Int), isK x0 12 → rec 4 x0 x1 μ = some (r, μ') → Ctr l D b yX12_readTerm cX12_readTerm 2 (none) (n0 + 10) [(2, x0), (0, x1)] μ none μ') (h_5 : ∀ (x0 x1 : Int) (μ μ' : Mem) (r : Int), isK x0 12 → rec 5 x0 x1 μ = some (r, μ') → Ctr l D b yX12_readTruth cX12_readTruth 2 (none) (n0 + 10) [(2, x0), (0, x1)] μ none μ') (h_6 : ∀ (x0 x1 : Int) (μ μ' : Mem) (r : Int), isK x0 12 → rec 6 x0 x1 μ = some (r, μ') → Ctr l D b yX12_readUnit cX12_readUnit 3 (none) (n0 + 10) [(2, x0), (0, x1)] μ none μ') {x0 x1 x2 : Int} {μ : Mem} {H : Heap} {locs : List Loc} {ls : Array Slot} (hf : f_X12_readUnit_j139 rec x0 x1 x2 μ = some (r, μ')) (t0 : isK x0 12) (hw : Hw D b μ s.heap H locs) (hl : lvh b ls 3 [(0, 2, x0), (1, 0, x1), (2, 0, x2)]) : W p l e (rm (n0 + 1 + 10)) s m args below meth c H locs 0 0 (QM below args s D b none μ') (F0 m 139 ls []) := by
  unfold f_X12_readUnit_j139 at hf
  refine r_aload_n C hl (kx := 0) rfl rfl dX12_readUnit_139 ?_
  obtain ⟨r2, μ1, e3, hf⟩ := bn_some hf
  refine r_callVn C hw (K := []) ok12 t0 (c_X12_next l D b t0 e3) mi_X12_next in_X12_next se_X12_next kl_12_129 rfl rfl (lvh_sz hl) ⟨by simp only [rm]; omega, by simp only [rm]; omega⟩ (Kr := []) rfl (Nat.le_of_ble_eq_true rfl) dX12_readUnit_140 (fun H locs hw => ?_)
  refine r_goto C (tgt := 151) (by decide) dX12_readUnit_143 ?_
  exact w_X12_readUnit_151 C _ h_0 h_1 h_2 h_3 h_4 h_5 h_6 hf t0 hw (lvh_sub hl [0, 1, 2] rfl)
set_option maxHeartbeats 4000000 in
set_option maxRecDepth 20000 in
theorem w_X12_readUnit_111 (C : Cx p s m args meth c D b cX12_readUnit 3 RX12 (none)) {r : Int} {μ' : Mem} (rec : Nat → Int → Int → Mem → Option (Int × Mem)) (h_0 : ∀ (x0 x1 : Int) (μ μ' : Mem) (r : Int), isK x0 12 → rec 0 x0 x1 μ = some (r, μ') → Ctr l D b yX12_readAtom cX12_readAtom 2 (none) (n0 + 10) [(2, x0), (0, x1)] μ none μ') (h_1 : ∀ (x0 x1 : Int) (μ μ' : Mem) (r : Int), isK x0 12 → rec 1 x0 x1 μ = some (r, μ') → Ctr l D b yX12_readBoth cX12_readBoth 2 (none) (n0 + 10) [(2, x0), (0, x1)] μ none μ') (h_2 : ∀ (x0 x1 : Int) (μ μ' : Mem) (r : Int), isK x0 12 → rec 2 x0 x1 μ = some (r, μ') → Ctr l D b yX12_readIf cX12_readIf 2 (none) (n0 + 10) [(2, x0), (0, x1)] μ none μ') (h_3 : ∀ (x0 x1 : Int) (μ μ' : Mem) (r : Int), isK x0 12 → rec 3 x0 x1 μ = some (r, μ') → Ctr l D b yX12_readSum cX12_readSum 3 (none) (n0 + 10) [(2, x0), (0, x1)] μ none μ') (h_4 : ∀ (x0 x1 : Int) (μ μ' : Mem) (r : Int), isK x0 12 → rec 4 x0 x1 μ = some (r, μ') → Ctr l D b yX12_readTerm cX12_readTerm 2 (none) (n0 + 10) [(2, x0), (0, x1)] μ none μ') (h_5 : ∀ (x0 x1 : Int) (μ μ' : Mem) (r : Int), isK x0 12 → rec 5 x0 x1 μ = some (r, μ') → Ctr l D b yX12_readTruth cX12_readTruth 2 (none) (n0 + 10) [(2, x0), (0, x1)] μ none μ') (h_6 : ∀ (x0 x1 : Int) (μ μ' : Mem) (r : Int), isK x0 12 → rec 6 x0 x1 μ = some (r, μ') → Ctr l D b yX12_readUnit cX12_readUnit 3 (none) (n0 + 10) [(2, x0), (0, x1)] μ none μ') {x0 x1 s0 : Int} {μ : Mem} {H : Heap} {locs : List Loc} {ls : Array Slot} (hf : f_X12_readUnit_j111 rec x0 x1 s0 μ = some (r, μ')) (t0 : isK x0 12) (hw : Hw D b μ s.heap H locs) (hl : lvh b ls 3 [(0, 2, x0), (1, 0, x1)]) : W p l e (rm (n0 + 1 + 10)) s m args below meth c H locs 0 0 (QM below args s D b none μ') (F0 m 111 ls [.int (jI s0)]) := by
  unfold f_X12_readUnit_j111 at hf
  refine r_istore_n C hl (by decide) (L' := [(2, 0, s0), (0, 2, x0), (1, 0, x1)]) rfl rfl dX12_readUnit_111 (fun ls hl => ?_)
  refine r_aload_n C hl (kx := 1) rfl rfl dX12_readUnit_112 ?_
  refine r_bipush C (by decide) dX12_readUnit_113 ?_
  obtain ⟨r2, μ1, e3, hf⟩ := bn_some hf
  refine r_callVv C hw (K := [(0, 39)]) ok12 t0 (c_X12_is l D b t0 e3) mi_X12_is in_X12_is se_X12_is kl_12_126 rfl rfl (lvh_sz hl) ⟨by simp only [rm]; omega, by simp only [rm]; omega⟩ (Kr := []) rfl (Nat.le_of_ble_eq_true rfl) dX12_readUnit_115 (fun H locs hw => ?_)
  refine r_if_ne C (tgt := 139) (by decide) dX12_readUnit_118 (fun c4 => ?_) (fun c4 => ?_)
  · have hf := ite_f c4 hf
    exact w_X12_readUnit_139 C _ h_0 h_1 h_2 h_3 h_4 h_5 h_6 hf t0 hw (lvh_sub hl [1, 2, 0] rfl)
  · have hf := ite_t c4 hf
    refine r_aload_n C hl (kx := 1) rfl rfl dX12_readUnit_121 ?_
    refine r_bipush C (by decide) dX12_readUnit_122 ?_
    obtain ⟨r6, μ5, e7, hf⟩ := bn_some hf
    refine r_callVv C hw (K := [(0, 40)]) ok12 t0 (c_X12_is l D b t0 e7) mi_X12_is in_X12_is se_X12_is kl_12_126 rfl rfl (lvh_sz hl) ⟨by simp only [rm]; omega, by simp only [rm]; omega⟩ (Kr := []) rfl (Nat.le_of_ble_eq_true rfl) dX12_readUnit_124 (fun H locs hw => ?_)
    refine r_if_ne C (tgt := 139) (by decide) dX12_readUnit_127 (fun c8 => ?_) (fun c8 => ?_)
    · have hf := ite_f c8 hf
      exact w_X12_readUnit_139 C _ h_0 h_1 h_2 h_3 h_4 h_5 h_6 hf t0 hw (lvh_sub hl [1, 2, 0] rfl)
    · have hf := ite_t c8 hf
      refine r_aload_n C hl (kx := 1) rfl rfl dX12_readUnit_130 ?_
      refine r_bipush C (by decide) dX12_readUnit_131 ?_
      obtain ⟨r10, μ9, e11, hf⟩ := bn_some hf
      refine r_callVv C hw (K := [(0, 41)]) ok12 t0 (c_X12_is l D b t0 e11) mi_X12_is in_X12_is se_X12_is kl_12_126 rfl rfl (lvh_sz hl) ⟨by simp only [rm]; omega, by simp only [rm]; omega⟩ (Kr := []) rfl (Nat.le_of_ble_eq_true rfl) dX12_readUnit_133 (fun H locs hw => ?_)
      refine r_if_eq C (tgt := 146) (by decide) dX12_readUnit_136 (fun c12 => ?_) (fun c12 => ?_)
      · have hf := ite_t c12 hf
        refine r_aload_n C hl (kx := 1) rfl rfl dX12_readUnit_146 ?_
        refine r_iconst C dX12_readUnit_147 ?_
        obtain ⟨r14, μ13, e15, hf⟩ := bn_some hf
        refine r_callVn C hw (K := [(0, 2)]) ok12 t0 (c_X12_fails l D b t0 e15) mi_X12_fails in_X12_fails se_X12_fails kl_12_132 rfl rfl (lvh_sz hl) ⟨by simp only [rm]; omega, by simp only [rm]; omega⟩ (Kr := []) rfl (Nat.le_of_ble_eq_true rfl) dX12_readUnit_148 (fun H locs hw => ?_)
        exact w_X12_readUnit_151 C _ h_0 h_1 h_2 h_3 h_4 h_5 h_6 hf t0 hw (lvh_sub hl [1, 2, 0] rfl)
      · have hf := ite_f c12 hf
        exact w_X12_readUnit_139 C _ h_0 h_1 h_2 h_3 h_4 h_5 h_6 hf t0 hw (lvh_sub hl [1, 2, 0] rfl)
set_option maxHeartbeats 4000000 in
set_option maxRecDepth 20000 in
theorem w_X12_readUnit_0 (C : Cx p s m args meth c D b cX12_readUnit 3 RX12 (none)) {r : Int} {μ' : Mem} (rec : Nat → Int → Int → Mem → Option (Int × Mem)) (h_0 : ∀ (x0 x1 : Int) (μ μ' : Mem) (r : Int), isK x0 12 → rec 0 x0 x1 μ = some (r, μ') → Ctr l D b yX12_readAtom cX12_readAtom 2 (none) (n0 + 10) [(2, x0), (0, x1)] μ none μ') (h_1 : ∀ (x0 x1 : Int) (μ μ' : Mem) (r : Int), isK x0 12 → rec 1 x0 x1 μ = some (r, μ') → Ctr l D b yX12_readBoth cX12_readBoth 2 (none) (n0 + 10) [(2, x0), (0, x1)] μ none μ') (h_2 : ∀ (x0 x1 : Int) (μ μ' : Mem) (r : Int), isK x0 12 → rec 2 x0 x1 μ = some (r, μ') → Ctr l D b yX12_readIf cX12_readIf 2 (none) (n0 + 10) [(2, x0), (0, x1)] μ none μ') (h_3 : ∀ (x0 x1 : Int) (μ μ' : Mem) (r : Int), isK x0 12 → rec 3 x0 x1 μ = some (r, μ') → Ctr l D b yX12_readSum cX12_readSum 3 (none) (n0 + 10) [(2, x0), (0, x1)] μ none μ') (h_4 : ∀ (x0 x1 : Int) (μ μ' : Mem) (r : Int), isK x0 12 → rec 4 x0 x1 μ = some (r, μ') → Ctr l D b yX12_readTerm cX12_readTerm 2 (none) (n0 + 10) [(2, x0), (0, x1)] μ none μ') (h_5 : ∀ (x0 x1 : Int) (μ μ' : Mem) (r : Int), isK x0 12 → rec 5 x0 x1 μ = some (r, μ') → Ctr l D b yX12_readTruth cX12_readTruth 2 (none) (n0 + 10) [(2, x0), (0, x1)] μ none μ') (h_6 : ∀ (x0 x1 : Int) (μ μ' : Mem) (r : Int), isK x0 12 → rec 6 x0 x1 μ = some (r, μ') → Ctr l D b yX12_readUnit cX12_readUnit 3 (none) (n0 + 10) [(2, x0), (0, x1)] μ none μ') {x0 x1 : Int} {μ : Mem} {H : Heap} {locs : List Loc} {ls : Array Slot} (hf : b_X12_readUnit rec x0 x1 μ = some (r, μ')) (t0 : isK x0 12) (hw : Hw D b μ s.heap H locs) (hl : lvh b ls 3 [(0, 2, x0), (1, 0, x1)]) : W p l e (rm (n0 + 1 + 10)) s m args below meth c H locs 0 0 (QM below args s D b none μ') (F0 m 0 ls []) := by
  unfold b_X12_readUnit at hf
  refine r_aload_n C hl (kx := 0) rfl rfl dX12_readUnit_0 ?_
  refine r_bipush C (by decide) dX12_readUnit_1 ?_
  obtain ⟨r2, μ1, e3, hf⟩ := bn_some hf
  refine r_callVv C hw (K := [(0, 21)]) ok12 t0 (c_X12_is l D b t0 e3) mi_X12_is in_X12_is se_X12_is kl_12_126 rfl rfl (lvh_sz hl) ⟨by simp only [rm]; omega, by simp only [rm]; omega⟩ (Kr := []) rfl (Nat.le_of_ble_eq_true rfl) dX12_readUnit_3 (fun H locs hw => ?_)
  refine r_if_eq C (tgt := 33) (by decide) dX12_readUnit_6 (fun c4 => ?_) (fun c4 => ?_)
  · have hf := ite_t c4 hf
    refine r_aload_n C hl (kx := 0) rfl rfl dX12_readUnit_33 ?_
    refine r_bipush C (by decide) dX12_readUnit_34 ?_
    obtain ⟨r6, μ5, e7, hf⟩ := bn_some hf
    refine r_callVv C hw (K := [(0, 37)]) ok12 t0 (c_X12_is l D b t0 e7) mi_X12_is in_X12_is se_X12_is kl_12_126 rfl rfl (lvh_sz hl) ⟨by simp only [rm]; omega, by simp only [rm]; omega⟩ (Kr := []) rfl (Nat.le_of_ble_eq_true rfl) dX12_readUnit_36 (fun H locs hw => ?_)
    refine r_if_eq C (tgt := 73) (by decide) dX12_readUnit_39 (fun c8 => ?_) (fun c8 => ?_)
    · have hf := ite_t c8 hf
      refine r_aload_n C hl (kx := 0) rfl rfl dX12_readUnit_73 ?_
      refine r_iload_n C hl (kx := 1) rfl rfl dX12_readUnit_74 ?_
      obtain ⟨r10, μ9, e11, hf⟩ := bn_some hf
      refine r_callVn C hw (K := [(0, x1)]) ok12 t0 (h_3 _ _ _ _ _ t0 e11) mi_X12_readSum in_X12_readSum se_X12_readSum kl_12_152 rfl rfl (lvh_sz hl) ⟨by simp only [rm]; omega, by simp only [rm]; omega⟩ (Kr := []) rfl (Nat.le_of_ble_eq_true rfl) dX12_readUnit_75 (fun H locs hw => ?_)
      refine r_aload_n C hl (kx := 0) rfl rfl dX12_readUnit_78 ?_
      refine r_bipush C (by decide) dX12_readUnit_79 ?_
      obtain ⟨r13, μ12, e14, hf⟩ := bn_some hf
      refine r_callVv C hw (K := [(0, 39)]) ok12 t0 (c_X12_is l D b t0 e14) mi_X12_is in_X12_is se_X12_is kl_12_126 rfl rfl (lvh_sz hl) ⟨by simp only [rm]; omega, by simp only [rm]; omega⟩ (Kr := []) rfl (Nat.le_of_ble_eq_true rfl) dX12_readUnit_81 (fun H locs hw => ?_)
      refine r_if_eq C (tgt := 93) (by decide) dX12_readUnit_84 (fun c15 => ?_) (fun c15 => ?_)
      · have hf := ite_t c15 hf
        refine r_aload_n C hl (kx := 0) rfl rfl dX12_readUnit_93 ?_
        refine r_bipush C (by decide) dX12_readUnit_94 ?_
        obtain ⟨r17, μ16, e18, hf⟩ := bn_some hf
        refine r_callVv C hw (K := [(0, 40)]) ok12 t0 (c_X12_is l D b t0 e18) mi_X12_is in_X12_is se_X12_is kl_12_126 rfl rfl (lvh_sz hl) ⟨by simp only [rm]; omega, by simp only [rm]; omega⟩ (Kr := []) rfl (Nat.le_of_ble_eq_true rfl) dX12_readUnit_96 (fun H locs hw => ?_)
        refine r_if_eq C (tgt := 108) (by decide) dX12_readUnit_99 (fun c19 => ?_) (fun c19 => ?_)
        · have hf := ite_t c19 hf
          refine r_sipush C (by decide) dX12_readUnit_108 ?_
          exact w_X12_readUnit_111 C _ h_0 h_1 h_2 h_3 h_4 h_5 h_6 hf t0 hw (lvh_sub hl [0, 1] rfl)
        · have hf := ite_f c19 hf
          refine r_sipush C (by decide) dX12_readUnit_102 ?_
          refine r_goto C (tgt := 111) (by decide) dX12_readUnit_105 ?_
          exact w_X12_readUnit_111 C _ h_0 h_1 h_2 h_3 h_4 h_5 h_6 hf t0 hw (lvh_sub hl [0, 1] rfl)
      · have hf := ite_f c15 hf
        refine r_sipush C (by decide) dX12_readUnit_87 ?_
        refine r_goto C (tgt := 111) (by decide) dX12_readUnit_90 ?_
        exact w_X12_readUnit_111 C _ h_0 h_1 h_2 h_3 h_4 h_5 h_6 hf t0 hw (lvh_sub hl [0, 1] rfl)
    · have hf := ite_f c8 hf
      refine r_aload_n C hl (kx := 0) rfl rfl dX12_readUnit_42 ?_
      refine r_iload_n C hl (kx := 1) rfl rfl dX12_readUnit_43 ?_
      obtain ⟨r21, μ20, e22, hf⟩ := bn_some hf
      refine r_callVv C hw (K := [(0, x1)]) ok12 t0 (c_X12_goesIn l D b t0 e22) mi_X12_goesIn in_X12_goesIn se_X12_goesIn kl_12_149 rfl rfl (lvh_sz hl) ⟨by simp only [rm]; omega, by simp only [rm]; omega⟩ (Kr := []) rfl (Nat.le_of_ble_eq_true rfl) dX12_readUnit_44 (fun H locs hw => ?_)
      refine r_if_ne C (tgt := 51) (by decide) dX12_readUnit_47 (fun c23 => ?_) (fun c23 => ?_)
      · have hf := ite_f c23 hf
        refine r_aload_n C hl (kx := 0) rfl rfl dX12_readUnit_51 ?_
        refine r_iload_n C hl (kx := 1) rfl rfl dX12_readUnit_52 ?_
        refine r_iconst C dX12_readUnit_53 ?_
        refine r_iadd C dX12_readUnit_54 ?_
        obtain ⟨r25, μ24, e26, hf⟩ := bn_some hf
        refine r_callVn C hw (K := [(0, (x1 + 1))]) ok12 t0 (h_5 _ _ _ _ _ t0 e26) mi_X12_readTruth in_X12_readTruth se_X12_readTruth kl_12_161 rfl rfl (lvh_sz hl) ⟨by simp only [rm]; omega, by simp only [rm]; omega⟩ (Kr := []) rfl (Nat.le_of_ble_eq_true rfl) dX12_readUnit_55 (fun H locs hw => ?_)
        refine r_aload_n C hl (kx := 0) rfl rfl dX12_readUnit_58 ?_
        refine r_bipush C (by decide) dX12_readUnit_59 ?_
        obtain ⟨r28, μ27, e29, hf⟩ := bn_some hf
        refine r_callVv C hw (K := [(0, 38)]) ok12 t0 (c_X12_eats l D b t0 e29) mi_X12_eats in_X12_eats se_X12_eats kl_12_155 rfl rfl (lvh_sz hl) ⟨by simp only [rm]; omega, by simp only [rm]; omega⟩ (Kr := []) rfl (Nat.le_of_ble_eq_true rfl) dX12_readUnit_61 (fun H locs hw => ?_)
        refine r_if_ne C (tgt := 72) (by decide) dX12_readUnit_64 (fun c30 => ?_) (fun c30 => ?_)
        · have hf := ite_f c30 hf
          exact r_vret C hw hf dX12_readUnit_72
        · have hf := ite_t c30 hf
          refine r_aload_n C hl (kx := 0) rfl rfl dX12_readUnit_67 ?_
          refine r_iconst C dX12_readUnit_68 ?_
          obtain ⟨r32, μ31, e33, hf⟩ := bn_some hf
          refine r_callVn C hw (K := [(0, 2)]) ok12 t0 (c_X12_fails l D b t0 e33) mi_X12_fails in_X12_fails se_X12_fails kl_12_132 rfl rfl (lvh_sz hl) ⟨by simp only [rm]; omega, by simp only [rm]; omega⟩ (Kr := []) rfl (Nat.le_of_ble_eq_true rfl) dX12_readUnit_69 (fun H locs hw => ?_)
          exact r_vret C hw hf dX12_readUnit_72
      · have hf := ite_t c23 hf
        exact r_vret C hw hf dX12_readUnit_50
  · have hf := ite_f c4 hf
    refine r_aload_n C hl (kx := 0) rfl rfl dX12_readUnit_9 ?_
    refine r_iload_n C hl (kx := 1) rfl rfl dX12_readUnit_10 ?_
    obtain ⟨r35, μ34, e36, hf⟩ := bn_some hf
    refine r_callVv C hw (K := [(0, x1)]) ok12 t0 (c_X12_goesIn l D b t0 e36) mi_X12_goesIn in_X12_goesIn se_X12_goesIn kl_12_149 rfl rfl (lvh_sz hl) ⟨by simp only [rm]; omega, by simp only [rm]; omega⟩ (Kr := []) rfl (Nat.le_of_ble_eq_true rfl) dX12_readUnit_11 (fun H locs hw => ?_)
    refine r_if_ne C (tgt := 18) (by decide) dX12_readUnit_14 (fun c37 => ?_) (fun c37 => ?_)
    · have hf := ite_f c37 hf
      refine r_aload_n C hl (kx := 0) rfl rfl dX12_readUnit_18 ?_
      refine r_iload_n C hl (kx := 1) rfl rfl dX12_readUnit_19 ?_
      refine r_iconst C dX12_readUnit_20 ?_
      refine r_iadd C dX12_readUnit_21 ?_
      obtain ⟨r39, μ38, e40, hf⟩ := bn_some hf
      refine r_callVn C hw (K := [(0, (x1 + 1))]) ok12 t0 (h_6 _ _ _ _ _ t0 e40) mi_X12_readUnit in_X12_readUnit se_X12_readUnit kl_12_170 rfl rfl (lvh_sz hl) ⟨by simp only [rm]; omega, by simp only [rm]; omega⟩ (Kr := []) rfl (Nat.le_of_ble_eq_true rfl) dX12_readUnit_22 (fun H locs hw => ?_)
      refine r_aload_n C hl (kx := 0) rfl rfl dX12_readUnit_25 ?_
      refine r_sipush C (by decide) dX12_readUnit_26 ?_
      obtain ⟨r42, μ41, e43, hf⟩ := bn_some hf
      refine r_callVn C hw (K := [(0, 3006)]) ok12 t0 (c_X12_codes l D b t0 e43) mi_X12_codes in_X12_codes se_X12_codes kl_12_143 rfl rfl (lvh_sz hl) ⟨by simp only [rm]; omega, by simp only [rm]; omega⟩ (Kr := []) rfl (Nat.le_of_ble_eq_true rfl) dX12_readUnit_29 (fun H locs hw => ?_)
      exact r_vret C hw hf dX12_readUnit_32
    · have hf := ite_t c37 hf
      exact r_vret C hw hf dX12_readUnit_17
set_option maxHeartbeats 4000000 in
theorem cg_X12_readAtom (l : Launch) (D : Ds) (b : Nat) : ∀ n0 : Nat, (∀ (x0 x1 : Int) (μ μ' : Mem) (r : Int), isK x0 12 → g_X12_readAtom n0 0 x0 x1 μ = some (r, μ') → Ctr l D b yX12_readAtom cX12_readAtom 2 (none) (n0 + 10) [(2, x0), (0, x1)] μ none μ') ∧ (∀ (x0 x1 : Int) (μ μ' : Mem) (r : Int), isK x0 12 → g_X12_readAtom n0 1 x0 x1 μ = some (r, μ') → Ctr l D b yX12_readBoth cX12_readBoth 2 (none) (n0 + 10) [(2, x0), (0, x1)] μ none μ') ∧ (∀ (x0 x1 : Int) (μ μ' : Mem) (r : Int), isK x0 12 → g_X12_readAtom n0 2 x0 x1 μ = some (r, μ') → Ctr l D b yX12_readIf cX12_readIf 2 (none) (n0 + 10) [(2, x0), (0, x1)] μ none μ') ∧ (∀ (x0 x1 : Int) (μ μ' : Mem) (r : Int), isK x0 12 → g_X12_readAtom n0 3 x0 x1 μ = some (r, μ') → Ctr l D b yX12_readSum cX12_readSum 3 (none) (n0 + 10) [(2, x0), (0, x1)] μ none μ') ∧ (∀ (x0 x1 : Int) (μ μ' : Mem) (r : Int), isK x0 12 → g_X12_readAtom n0 4 x0 x1 μ = some (r, μ') → Ctr l D b yX12_readTerm cX12_readTerm 2 (none) (n0 + 10) [(2, x0), (0, x1)] μ none μ') ∧ (∀ (x0 x1 : Int) (μ μ' : Mem) (r : Int), isK x0 12 → g_X12_readAtom n0 5 x0 x1 μ = some (r, μ') → Ctr l D b yX12_readTruth cX12_readTruth 2 (none) (n0 + 10) [(2, x0), (0, x1)] μ none μ') ∧ (∀ (x0 x1 : Int) (μ μ' : Mem) (r : Int), isK x0 12 → g_X12_readAtom n0 6 x0 x1 μ = some (r, μ') → Ctr l D b yX12_readUnit cX12_readUnit 3 (none) (n0 + 10) [(2, x0), (0, x1)] μ none μ') := by
  intro n0
  induction n0 with
  | zero => exact ⟨fun _ _ _ _ _ _ hf => (by cases hf), fun _ _ _ _ _ _ hf => (by cases hf), fun _ _ _ _ _ _ hf => (by cases hf), fun _ _ _ _ _ _ hf => (by cases hf), fun _ _ _ _ _ _ hf => (by cases hf), fun _ _ _ _ _ _ hf => (by cases hf), fun _ _ _ _ _ _ hf => (by cases hf)⟩
  | succ n0 ih =>
    obtain ⟨h_0, h_1, h_2, h_3, h_4, h_5, h_6⟩ := ih
    refine ⟨?_, ?_, ?_, ?_, ?_, ?_, ?_⟩
    · intro x0 x1 μ μ' r t0 hf
      rw [g_X12_readAtom.eq_2] at hf
      have hf := ite_t rfl hf
      refine Ctr.of (by decide +kernel) (Nat.le_of_ble_eq_true rfl) ?_
      intro p e s m below meth c C hw ls hl
      have hq := w_X12_readAtom_0 C (r := r) (μ' := μ') (n0 := n0) (e := e) (below := below) _ h_0 h_1 h_2 h_3 h_4 h_5 h_6 hf t0 hw hl
      exact hq
    · intro x0 x1 μ μ' r t0 hf
      rw [g_X12_readAtom.eq_2] at hf
      have hf := ite_t rfl (ite_f (by decide) hf)
      refine Ctr.of (by decide +kernel) (Nat.le_of_ble_eq_true rfl) ?_
      intro p e s m below meth c C hw ls hl
      have hq := w_X12_readBoth_0 C (r := r) (μ' := μ') (n0 := n0) (e := e) (below := below) _ h_0 h_1 h_2 h_3 h_4 h_5 h_6 hf t0 hw hl
      exact hq
    · intro x0 x1 μ μ' r t0 hf
      rw [g_X12_readAtom.eq_2] at hf
      have hf := ite_t rfl (ite_f (by decide) (ite_f (by decide) hf))
      refine Ctr.of (by decide +kernel) (Nat.le_of_ble_eq_true rfl) ?_
      intro p e s m below meth c C hw ls hl
      have hq := w_X12_readIf_0 C (r := r) (μ' := μ') (n0 := n0) (e := e) (below := below) _ h_0 h_1 h_2 h_3 h_4 h_5 h_6 hf t0 hw hl
      exact hq
    · intro x0 x1 μ μ' r t0 hf
      rw [g_X12_readAtom.eq_2] at hf
      have hf := ite_t rfl (ite_f (by decide) (ite_f (by decide) (ite_f (by decide) hf)))
      refine Ctr.of (by decide +kernel) (Nat.le_of_ble_eq_true rfl) ?_
      intro p e s m below meth c C hw ls hl
      have hq := w_X12_readSum_0 C (r := r) (μ' := μ') (n0 := n0) (e := e) (below := below) _ h_0 h_1 h_2 h_3 h_4 h_5 h_6 hf t0 hw hl
      exact hq
    · intro x0 x1 μ μ' r t0 hf
      rw [g_X12_readAtom.eq_2] at hf
      have hf := ite_t rfl (ite_f (by decide) (ite_f (by decide) (ite_f (by decide) (ite_f (by decide) hf))))
      refine Ctr.of (by decide +kernel) (Nat.le_of_ble_eq_true rfl) ?_
      intro p e s m below meth c C hw ls hl
      have hq := w_X12_readTerm_0 C (r := r) (μ' := μ') (n0 := n0) (e := e) (below := below) _ h_0 h_1 h_2 h_3 h_4 h_5 h_6 hf t0 hw hl
      exact hq
    · intro x0 x1 μ μ' r t0 hf
      rw [g_X12_readAtom.eq_2] at hf
      have hf := ite_t rfl (ite_f (by decide) (ite_f (by decide) (ite_f (by decide) (ite_f (by decide) (ite_f (by decide) hf)))))
      refine Ctr.of (by decide +kernel) (Nat.le_of_ble_eq_true rfl) ?_
      intro p e s m below meth c C hw ls hl
      have hq := w_X12_readTruth_0 C (r := r) (μ' := μ') (n0 := n0) (e := e) (below := below) _ h_0 h_1 h_2 h_3 h_4 h_5 h_6 hf t0 hw hl
      exact hq
    · intro x0 x1 μ μ' r t0 hf
      rw [g_X12_readAtom.eq_2] at hf
      have hf := ite_t rfl (ite_f (by decide) (ite_f (by decide) (ite_f (by decide) (ite_f (by decide) (ite_f (by decide) (ite_f (by decide) hf))))))
      refine Ctr.of (by decide +kernel) (Nat.le_of_ble_eq_true rfl) ?_
      intro p e s m below meth c C hw ls hl
      have hq := w_X12_readUnit_0 C (r := r) (μ' := μ') (n0 := n0) (e := e) (below := below) _ h_0 h_1 h_2 h_3 h_4 h_5 h_6 hf t0 hw hl
      exact hq
theorem c_X12_readAtom (l : Launch) (D : Ds) (b : Nat) {x0 x1 : Int} {μ μ' : Mem} {r : Int} (t0 : isK x0 12) (hf : f_X12_readAtom x0 x1 μ = some (r, μ')) : Ctr l D b yX12_readAtom cX12_readAtom 2 (none) 74 [(2, x0), (0, x1)] μ none μ' := (cg_X12_readAtom l D b 64).1 _ _ _ _ _ t0 hf
theorem c_X12_readBoth (l : Launch) (D : Ds) (b : Nat) {x0 x1 : Int} {μ μ' : Mem} {r : Int} (t0 : isK x0 12) (hf : f_X12_readBoth x0 x1 μ = some (r, μ')) : Ctr l D b yX12_readBoth cX12_readBoth 2 (none) 74 [(2, x0), (0, x1)] μ none μ' := (cg_X12_readAtom l D b 64).2.1 _ _ _ _ _ t0 hf
theorem c_X12_readIf (l : Launch) (D : Ds) (b : Nat) {x0 x1 : Int} {μ μ' : Mem} {r : Int} (t0 : isK x0 12) (hf : f_X12_readIf x0 x1 μ = some (r, μ')) : Ctr l D b yX12_readIf cX12_readIf 2 (none) 74 [(2, x0), (0, x1)] μ none μ' := (cg_X12_readAtom l D b 64).2.2.1 _ _ _ _ _ t0 hf
theorem c_X12_readSum (l : Launch) (D : Ds) (b : Nat) {x0 x1 : Int} {μ μ' : Mem} {r : Int} (t0 : isK x0 12) (hf : f_X12_readSum x0 x1 μ = some (r, μ')) : Ctr l D b yX12_readSum cX12_readSum 3 (none) 74 [(2, x0), (0, x1)] μ none μ' := (cg_X12_readAtom l D b 64).2.2.2.1 _ _ _ _ _ t0 hf
theorem c_X12_readTerm (l : Launch) (D : Ds) (b : Nat) {x0 x1 : Int} {μ μ' : Mem} {r : Int} (t0 : isK x0 12) (hf : f_X12_readTerm x0 x1 μ = some (r, μ')) : Ctr l D b yX12_readTerm cX12_readTerm 2 (none) 74 [(2, x0), (0, x1)] μ none μ' := (cg_X12_readAtom l D b 64).2.2.2.2.1 _ _ _ _ _ t0 hf
theorem c_X12_readTruth (l : Launch) (D : Ds) (b : Nat) {x0 x1 : Int} {μ μ' : Mem} {r : Int} (t0 : isK x0 12) (hf : f_X12_readTruth x0 x1 μ = some (r, μ')) : Ctr l D b yX12_readTruth cX12_readTruth 2 (none) 74 [(2, x0), (0, x1)] μ none μ' := (cg_X12_readAtom l D b 64).2.2.2.2.2.1 _ _ _ _ _ t0 hf
theorem c_X12_readUnit (l : Launch) (D : Ds) (b : Nat) {x0 x1 : Int} {μ μ' : Mem} {r : Int} (t0 : isK x0 12) (hf : f_X12_readUnit x0 x1 μ = some (r, μ')) : Ctr l D b yX12_readUnit cX12_readUnit 3 (none) 74 [(2, x0), (0, x1)] μ none μ' := (cg_X12_readAtom l D b 64).2.2.2.2.2.2 _ _ _ _ _ t0 hf
end WALK
