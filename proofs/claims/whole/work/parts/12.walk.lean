section WALK
variable {p : Program} {l : Launch} {e : Env} {s : State} {m : MethodId} {args : Array Value} {below : List Frame} {meth : Method} {c : Code} {H : Heap} {locs : List Loc} {D : Ds} {b : Nat} {n0 : Nat}
set_option maxHeartbeats 4000000 in
set_option maxRecDepth 20000 in
theorem w_X9_byteAt_0 (C : Cx p s m args meth c D b cX9_byteAt 2 RX9 (some .int)) {r : Int} {μ' : Mem} {x0 x1 : Int} {μ : Mem} {H : Heap} {locs : List Loc} {ls : Array Slot} (hf : f_X9_byteAt x0 x1 μ = some (r, μ')) (t0 : isK x0 9) (hw : Hw D b μ s.heap H locs) (hl : lvh b ls 2 [(0, 2, x0), (1, 0, x1)]) : W p l e (rm 0) s m args below meth c H locs 0 0 (QM below args s D b (some (.int (jI r))) μ') (F0 m 0 ls []) := by
  unfold f_X9_byteAt at hf
  refine r_aload_n C hl (kx := 0) rfl rfl dX9_byteAt_0 ?_
  refine gf_9_15 C hw t0 dX9_byteAt_1 ?_
  refine r_ifnull C (tgt := 28) (by decide) dX9_byteAt_4 (fun c1 => ?_) (fun c1 => ?_)
  · have hf := ite_t c1 hf
    refine r_iconst C dX9_byteAt_28 ?_
    refine r_goto C (tgt := 42) (by decide) dX9_byteAt_29 ?_
    exact r_iret C hw hf dX9_byteAt_42
  · have hf := ite_f c1 hf
    refine r_iload_n C hl (kx := 1) rfl rfl dX9_byteAt_7 ?_
    refine r_if_lt C (tgt := 28) (by decide) dX9_byteAt_8 (fun c2 => ?_) (fun c2 => ?_)
    · have hf := ite_t c2 hf
      refine r_iconst C dX9_byteAt_28 ?_
      refine r_goto C (tgt := 42) (by decide) dX9_byteAt_29 ?_
      exact r_iret C hw hf dX9_byteAt_42
    · have hf := ite_f c2 hf
      refine r_iload_n C hl (kx := 1) rfl rfl dX9_byteAt_11 ?_
      refine r_aload_n C hl (kx := 0) rfl rfl dX9_byteAt_12 ?_
      refine gf_9_25 C hw t0 dX9_byteAt_13 ?_
      refine r_icmp_ge C (tgt := 28) (by decide) dX9_byteAt_16 (fun c3 => ?_) (fun c3 => ?_)
      · have hf := ite_t c3 hf
        refine r_iconst C dX9_byteAt_28 ?_
        refine r_goto C (tgt := 42) (by decide) dX9_byteAt_29 ?_
        exact r_iret C hw hf dX9_byteAt_42
      · have hf := ite_f c3 hf
        refine r_iload_n C hl (kx := 1) rfl rfl dX9_byteAt_19 ?_
        refine r_aload_n C hl (kx := 0) rfl rfl dX9_byteAt_20 ?_
        refine gf_9_15 C hw t0 dX9_byteAt_21 ?_
        obtain ⟨g4, hf⟩ := gd_some hf
        refine r_alen2 C hw (n := 900) g4 (by decide) (z := 900) rfl dX9_byteAt_24 ?_
        refine r_icmp_lt C (tgt := 32) (by decide) dX9_byteAt_25 (fun c5 => ?_) (fun c5 => ?_)
        · have hf := ite_t c5 hf
          refine r_aload_n C hl (kx := 0) rfl rfl dX9_byteAt_32 ?_
          refine gf_9_15 C hw t0 dX9_byteAt_33 ?_
          refine r_iload_n C hl (kx := 1) rfl rfl dX9_byteAt_36 ?_
          obtain ⟨g6, hf⟩ := gd_some hf
          refine r_bald C hw (n := 900) g4 (j := (nrm x1)) rfl g6 (by decide) dX9_byteAt_37 ?_
          refine r_sipush C (by decide) dX9_byteAt_38 ?_
          refine r_iand C dX9_byteAt_41 ?_
          exact r_iret C hw hf dX9_byteAt_42
        · have hf := ite_f c5 hf
          refine r_iconst C dX9_byteAt_28 ?_
          refine r_goto C (tgt := 42) (by decide) dX9_byteAt_29 ?_
          exact r_iret C hw hf dX9_byteAt_42
theorem c_X9_byteAt (l : Launch) (D : Ds) (b : Nat) {x0 x1 : Int} {μ μ' : Mem} {r : Int} (t0 : isK x0 9) (hf : f_X9_byteAt x0 x1 μ = some (r, μ')) : Ctr l D b yX9_byteAt cX9_byteAt 2 (some .int) 0 [(2, x0), (0, x1)] μ (some (.int (jI r))) μ' := by
  refine Ctr.of (by decide +kernel) (Nat.le_of_ble_eq_true rfl) ?_
  intro p e s m below meth c C hw ls hl
  exact w_X9_byteAt_0 C hf t0 hw hl
set_option maxHeartbeats 4000000 in
set_option maxRecDepth 20000 in
theorem w_X9_isLetter_0 (C : Cx p s m args meth c D b cX9_isLetter 1 RX9 (some .boolean)) {r : Int} {μ' : Mem} {x0 : Int} {μ : Mem} {H : Heap} {locs : List Loc} {ls : Array Slot} (hf : f_X9_isLetter x0 μ = some (r, μ')) (hw : Hw D b μ s.heap H locs) (hl : lvh b ls 1 [(0, 0, x0)]) : W p l e (rm 0) s m args below meth c H locs 0 0 (QM below args s D b (some (.int (jI r))) μ') (F0 m 0 ls []) := by
  unfold f_X9_isLetter at hf
  refine r_iload_n C hl (kx := 0) rfl rfl dX9_isLetter_0 ?_
  refine r_bipush C (by decide) dX9_isLetter_1 ?_
  refine r_icmp_lt C (tgt := 16) (by decide) dX9_isLetter_3 (fun c1 => ?_) (fun c1 => ?_)
  · have hf := ite_t c1 hf
    refine r_iconst C dX9_isLetter_16 ?_
    exact r_zret C hw (by decide) hf dX9_isLetter_17
  · have hf := ite_f c1 hf
    refine r_iload_n C hl (kx := 0) rfl rfl dX9_isLetter_6 ?_
    refine r_bipush C (by decide) dX9_isLetter_7 ?_
    refine r_icmp_gt C (tgt := 16) (by decide) dX9_isLetter_9 (fun c2 => ?_) (fun c2 => ?_)
    · have hf := ite_t c2 hf
      refine r_iconst C dX9_isLetter_16 ?_
      exact r_zret C hw (by decide) hf dX9_isLetter_17
    · have hf := ite_f c2 hf
      refine r_iconst C dX9_isLetter_12 ?_
      refine r_goto C (tgt := 17) (by decide) dX9_isLetter_13 ?_
      exact r_zret C hw (by decide) hf dX9_isLetter_17
theorem c_X9_isLetter (l : Launch) (D : Ds) (b : Nat) {x0 : Int} {μ μ' : Mem} {r : Int} (hf : f_X9_isLetter x0 μ = some (r, μ')) : Ctr l D b yX9_isLetter cX9_isLetter 1 (some .boolean) 0 [(0, x0)] μ (some (.int (jI r))) μ' := by
  refine Ctr.of (by decide +kernel) (Nat.le_of_ble_eq_true rfl) ?_
  intro p e s m below meth c C hw ls hl
  exact w_X9_isLetter_0 C hf hw hl
set_option maxHeartbeats 4000000 in
set_option maxRecDepth 20000 in
theorem w_X9_isSame_7 (C : Cx p s m args meth c D b cX9_isSame 5 RX9 (some .boolean)) {r : Int} {μ' : Mem} : ∀ (n : Nat) (x0 x1 x2 x3 x4 : Int) (μ : Mem) (H : Heap) (locs : List Loc) (ls : Array Slot), f_X9_isSame_w7 n x0 x1 x2 x3 x4 μ = some (r, μ') → isK x0 9 → Hw D b μ s.heap H locs → lvh b ls 5 [(0, 2, x0), (1, 0, x1), (2, 0, x2), (3, 0, x3), (4, 0, x4)] → W p l e (rm 7) s m args below meth c H locs 0 0 (QM below args s D b (some (.int (jI r))) μ') (F0 m 7 ls []) := by
  intro n
  induction n with
  | zero => intro x0 x1 x2 x3 x4 μ H locs ls hf; cases hf
  | succ n ih =>
    intro x0 x1 x2 x3 x4 μ H locs ls hf t0 hw hl
    rw [f_X9_isSame_w7.eq_2] at hf
    refine r_iload C hl (kx := 4) rfl dX9_isSame_7 ?_
    refine r_iload_n C hl (kx := 2) rfl rfl dX9_isSame_9 ?_
    refine r_icmp_ge C (tgt := 51) (by decide) dX9_isSame_10 (fun c1 => ?_) (fun c1 => ?_)
    · have hf := ite_t c1 hf
      refine r_iconst C dX9_isSame_51 ?_
      exact r_zret C hw (by decide) hf dX9_isSame_52
    · have hf := ite_f c1 hf
      refine r_iload C hl (kx := 4) rfl dX9_isSame_13 ?_
      refine r_ldcS0_9 C dX9_isSame_15 ?_
      refine r_slen0 C hw kl_9_77 (lvh_sz hl) (by decide) (Nat.le_of_ble_eq_true rfl) dX9_isSame_17 (fun H locs hw => ?_)
      refine r_icmp_ge C (tgt := 51) (by decide) dX9_isSame_20 (fun c2 => ?_) (fun c2 => ?_)
      · have hf := ite_t c2 hf
        refine r_iconst C dX9_isSame_51 ?_
        exact r_zret C hw (by decide) hf dX9_isSame_52
      · have hf := ite_f c2 hf
        refine r_ldcS0_9 C dX9_isSame_23 ?_
        refine r_iload C hl (kx := 4) rfl dX9_isSame_25 ?_
        obtain ⟨g3, hf⟩ := gd_some hf
        refine r_schar0 C hw g3 kl_9_80 (lvh_sz hl) (by decide) (Nat.le_of_ble_eq_true rfl) dX9_isSame_27 (fun H locs hw => ?_)
        refine r_aload_n C hl (kx := 0) rfl rfl dX9_isSame_30 ?_
        refine r_iload_n C hl (kx := 3) rfl rfl dX9_isSame_31 ?_
        refine r_iload C hl (kx := 4) rfl dX9_isSame_32 ?_
        refine r_iadd C dX9_isSame_34 ?_
        refine r_iload_n C hl (kx := 1) rfl rfl dX9_isSame_35 ?_
        refine r_isub C dX9_isSame_36 ?_
        obtain ⟨r5, μ4, e6, hf⟩ := bn_some hf
        refine r_callVv C hw (K := [(0, ((x3 + x4) - x1))]) ok9 t0 (c_X9_byteAt l D b t0 e6) mi_X9_byteAt in_X9_byteAt se_X9_byteAt kl_9_32 rfl rfl (lvh_sz hl) (by decide) (Kr := [(0, (sch 0 (nrm x4)))]) rfl (Nat.le_of_ble_eq_true rfl) dX9_isSame_37 (fun H locs hw => ?_)
        refine r_icmp_eq C (tgt := 45) (by decide) dX9_isSame_40 (fun c7 => ?_) (fun c7 => ?_)
        · have hf := ite_t c7 hf
          refine r_iinc C hl (kx := 4) rfl (by decide) (L' := [(4, 0, (x4 + 1)), (0, 2, x0), (1, 0, x1), (2, 0, x2), (3, 0, x3)]) rfl dX9_isSame_45 (fun ls hl => ?_)
          refine r_goto C (tgt := 7) (by decide) dX9_isSame_48 ?_
          exact ih _ _ _ _ _ _ _ _ _ hf t0 hw (lvh_sub hl [1, 2, 3, 4, 0] rfl)
        · have hf := ite_f c7 hf
          refine r_iconst C dX9_isSame_43 ?_
          exact r_zret C hw (by decide) hf dX9_isSame_44
set_option maxHeartbeats 4000000 in
set_option maxRecDepth 20000 in
theorem w_X9_isSame_0 (C : Cx p s m args meth c D b cX9_isSame 5 RX9 (some .boolean)) {r : Int} {μ' : Mem} {x0 x1 x2 x3 : Int} {μ : Mem} {H : Heap} {locs : List Loc} {ls : Array Slot} (hf : f_X9_isSame x0 x1 x2 x3 μ = some (r, μ')) (t0 : isK x0 9) (hw : Hw D b μ s.heap H locs) (hl : lvh b ls 5 [(0, 2, x0), (1, 0, x1), (2, 0, x2), (3, 0, x3)]) : W p l e (rm 7) s m args below meth c H locs 0 0 (QM below args s D b (some (.int (jI r))) μ') (F0 m 0 ls []) := by
  unfold f_X9_isSame at hf
  refine r_iconst C dX9_isSame_0 ?_
  refine r_iload_n C hl (kx := 1) rfl rfl dX9_isSame_1 ?_
  obtain ⟨r2, μ1, e3, hf⟩ := bn_some hf
  refine r_callSv C hw (K := [(0, 0), (0, x1)]) (c_J9_max_7cf53 l D b e3) mi_J9_max_7cf53 st_J9_max_7cf53 kl_9_88 rfl rfl (lvh_sz hl) (by decide) (Kr := []) rfl (Nat.le_of_ble_eq_true rfl) dX9_isSame_2 (fun H locs hw => ?_)
  refine r_istore C hl (by decide) (L' := [(4, 0, r2), (0, 2, x0), (1, 0, x1), (2, 0, x2), (3, 0, x3)]) rfl dX9_isSame_5 (fun ls hl => ?_)
  exact w_X9_isSame_7 C FU _ _ _ _ _ _ _ _ _ hf t0 hw (lvh_sub hl [1, 2, 3, 4, 0] rfl)
theorem c_X9_isSame (l : Launch) (D : Ds) (b : Nat) {x0 x1 x2 x3 : Int} {μ μ' : Mem} {r : Int} (t0 : isK x0 9) (hf : f_X9_isSame x0 x1 x2 x3 μ = some (r, μ')) : Ctr l D b yX9_isSame cX9_isSame 5 (some .boolean) 7 [(2, x0), (0, x1), (0, x2), (0, x3)] μ (some (.int (jI r))) μ' := by
  refine Ctr.of (by decide +kernel) (Nat.le_of_ble_eq_true rfl) ?_
  intro p e s m below meth c C hw ls hl
  exact w_X9_isSame_0 C hf t0 hw hl
set_option maxHeartbeats 4000000 in
set_option maxRecDepth 20000 in
theorem w_X9_keep_0 (C : Cx p s m args meth c D b cX9_keep 4 RX9 (none)) {r : Int} {μ' : Mem} {x0 x1 x2 x3 : Int} {μ : Mem} {H : Heap} {locs : List Loc} {ls : Array Slot} (hf : f_X9_keep x0 x1 x2 x3 μ = some (r, μ')) (t0 : isK x0 9) (hw : Hw D b μ s.heap H locs) (hl : lvh b ls 4 [(0, 2, x0), (1, 0, x1), (2, 0, x2), (3, 0, x3)]) : W p l e (rm 0) s m args below meth c H locs 0 0 (QM below args s D b none μ') (F0 m 0 ls []) := by
  unfold f_X9_keep at hf
  refine r_aload_n C hl (kx := 0) rfl rfl dX9_keep_0 ?_
  refine gf_9_29 C hw t0 dX9_keep_1 ?_
  refine r_if_lt C (tgt := 49) (by decide) dX9_keep_4 (fun c1 => ?_) (fun c1 => ?_)
  · have hf := ite_t c1 hf
    exact r_vret C hw hf dX9_keep_49
  · have hf := ite_f c1 hf
    refine r_aload_n C hl (kx := 0) rfl rfl dX9_keep_7 ?_
    refine gf_9_29 C hw t0 dX9_keep_8 ?_
    refine r_aload_n C hl (kx := 0) rfl rfl dX9_keep_11 ?_
    refine gf_9_9 C hw t0 dX9_keep_12 ?_
    refine r_alen1 C hw (n := 901) (ow_9_5 t0) (by decide) (z := 901) rfl dX9_keep_15 ?_
    refine r_icmp_ge C (tgt := 49) (by decide) dX9_keep_16 (fun c2 => ?_) (fun c2 => ?_)
    · have hf := ite_t c2 hf
      exact r_vret C hw hf dX9_keep_49
    · have hf := ite_f c2 hf
      refine r_aload_n C hl (kx := 0) rfl rfl dX9_keep_19 ?_
      refine gf_9_9 C hw t0 dX9_keep_20 ?_
      refine r_aload_n C hl (kx := 0) rfl rfl dX9_keep_23 ?_
      refine gf_9_29 C hw t0 dX9_keep_24 ?_
      refine r_iload_n C hl (kx := 3) rfl rfl dX9_keep_27 ?_
      refine r_bipush C (by decide) dX9_keep_28 ?_
      refine r_ishl C dX9_keep_30 ?_
      refine r_iload_n C hl (kx := 2) rfl rfl dX9_keep_31 ?_
      refine r_bipush C (by decide) dX9_keep_32 ?_
      refine r_ishl C dX9_keep_34 ?_
      refine r_ior C dX9_keep_35 ?_
      refine r_iload_n C hl (kx := 1) rfl rfl dX9_keep_36 ?_
      refine r_ior C dX9_keep_37 ?_
      obtain ⟨g5, hf⟩ := gd_some hf
      obtain ⟨μ3, e4, hf⟩ := nm_some hf
      refine r_iast C hw (n := 901) (ow_9_5 t0) (j := (nrm (μ x0 6))) rfl g5 (by decide) dX9_keep_38 (fun H locs hw => ?_)
      rw [← e4] at hw
      refine r_aload_n C hl (kx := 0) rfl rfl dX9_keep_39 ?_
      refine r_dup C (rfv_cat _ _) dX9_keep_40 ?_
      refine gf_9_29 C hw t0 dX9_keep_41 ?_
      refine r_iconst C dX9_keep_44 ?_
      refine r_iadd C dX9_keep_45 ?_
      obtain ⟨μ6, e7, hf⟩ := nm_some hf
      refine pf_9_29 C hw t0 dX9_keep_46 (fun H locs hw => ?_)
      rw [← e7] at hw
      exact r_vret C hw hf dX9_keep_49
theorem c_X9_keep (l : Launch) (D : Ds) (b : Nat) {x0 x1 x2 x3 : Int} {μ μ' : Mem} {r : Int} (t0 : isK x0 9) (hf : f_X9_keep x0 x1 x2 x3 μ = some (r, μ')) : Ctr l D b yX9_keep cX9_keep 4 (none) 0 [(2, x0), (0, x1), (0, x2), (0, x3)] μ none μ' := by
  refine Ctr.of (by decide +kernel) (Nat.le_of_ble_eq_true rfl) ?_
  intro p e s m below meth c C hw ls hl
  exact w_X9_keep_0 C hf t0 hw hl
set_option maxHeartbeats 4000000 in
set_option maxRecDepth 20000 in
theorem w_X9_takeWord_99 (C : Cx p s m args meth c D b cX9_takeWord 7 RX9 (some .int)) {r : Int} {μ' : Mem} (k42 : Int → Int → Int → Int → Int → Int → Int → Mem → Option (Int × Mem)) (h42 : ∀ (x0 x1 x2 x3 x4 x5 x6 : Int) (μ : Mem) (H : Heap) (locs : List Loc) (ls : Array Slot), k42 x0 x1 x2 x3 x4 x5 x6 μ = some (r, μ') → isK x0 9 → Hw D b μ s.heap H locs → lvh b ls 7 [(0, 2, x0), (1, 0, x1), (2, 0, x2), (3, 0, x3), (4, 0, x4), (5, 0, x5), (6, 0, x6)] → W p l e (rm 8) s m args below meth c H locs 0 0 (QM below args s D b (some (.int (jI r))) μ') (F0 m 42 ls [])) {x0 x1 x2 x3 x4 x5 x6 : Int} {μ : Mem} {H : Heap} {locs : List Loc} {ls : Array Slot} (hf : f_X9_takeWord_j99 k42 x0 x1 x2 x3 x4 x5 x6 μ = some (r, μ')) (t0 : isK x0 9) (hw : Hw D b μ s.heap H locs) (hl : lvh b ls 7 [(0, 2, x0), (1, 0, x1), (2, 0, x2), (3, 0, x3), (4, 0, x4), (5, 0, x5), (6, 0, x6)]) : W p l e (rm 8) s m args below meth c H locs 0 0 (QM below args s D b (some (.int (jI r))) μ') (F0 m 99 ls []) := by
  unfold f_X9_takeWord_j99 at hf
  refine r_iinc C hl (kx := 6) rfl (by decide) (L' := [(6, 0, (x6 + 1)), (0, 2, x0), (1, 0, x1), (2, 0, x2), (3, 0, x3), (4, 0, x4), (5, 0, x5)]) rfl dX9_takeWord_99 (fun ls hl => ?_)
  refine r_goto C (tgt := 42) (by decide) dX9_takeWord_102 ?_
  exact h42 _ _ _ _ _ _ _ _ _ _ _ hf t0 hw (lvh_sub hl [1, 2, 3, 4, 5, 6, 0] rfl)
set_option maxHeartbeats 4000000 in
set_option maxRecDepth 20000 in
theorem w_X9_takeWord_90 (C : Cx p s m args meth c D b cX9_takeWord 7 RX9 (some .int)) {r : Int} {μ' : Mem} (k42 : Int → Int → Int → Int → Int → Int → Int → Mem → Option (Int × Mem)) (h42 : ∀ (x0 x1 x2 x3 x4 x5 x6 : Int) (μ : Mem) (H : Heap) (locs : List Loc) (ls : Array Slot), k42 x0 x1 x2 x3 x4 x5 x6 μ = some (r, μ') → isK x0 9 → Hw D b μ s.heap H locs → lvh b ls 7 [(0, 2, x0), (1, 0, x1), (2, 0, x2), (3, 0, x3), (4, 0, x4), (5, 0, x5), (6, 0, x6)] → W p l e (rm 8) s m args below meth c H locs 0 0 (QM below args s D b (some (.int (jI r))) μ') (F0 m 42 ls [])) {x0 x1 x2 x3 x5 x6 : Int} {μ : Mem} {H : Heap} {locs : List Loc} {ls : Array Slot} (hf : f_X9_takeWord_j90 k42 x0 x1 x2 x3 x5 x6 μ = some (r, μ')) (t0 : isK x0 9) (hw : Hw D b μ s.heap H locs) (hl : lvh b ls 7 [(0, 2, x0), (1, 0, x1), (2, 0, x2), (3, 0, x3), (5, 0, x5), (6, 0, x6)]) : W p l e (rm 8) s m args below meth c H locs 0 0 (QM below args s D b (some (.int (jI r))) μ') (F0 m 90 ls []) := by
  unfold f_X9_takeWord_j90 at hf
  refine r_iinc C hl (kx := 4) rfl (by decide) (L' := [(5, 0, (x5 + 1)), (0, 2, x0), (1, 0, x1), (2, 0, x2), (3, 0, x3), (6, 0, x6)]) rfl dX9_takeWord_90 (fun ls hl => ?_)
  refine r_iload C hl (kx := 5) rfl dX9_takeWord_93 ?_
  refine r_iconst C dX9_takeWord_95 ?_
  refine r_iadd C dX9_takeWord_96 ?_
  obtain ⟨v1, e2, hf⟩ := nm_some hf
  refine top_i e2 ?_
  refine r_istore C hl (by decide) (L' := [(4, 0, v1), (5, 0, (x5 + 1)), (0, 2, x0), (1, 0, x1), (2, 0, x2), (3, 0, x3), (6, 0, x6)]) rfl dX9_takeWord_97 (fun ls hl => ?_)
  exact w_X9_takeWord_99 C _ h42 hf t0 hw (lvh_sub hl [2, 3, 4, 5, 0, 1, 6] rfl)
set_option maxHeartbeats 4000000 in
set_option maxRecDepth 20000 in
theorem w_X9_takeWord_42 (C : Cx p s m args meth c D b cX9_takeWord 7 RX9 (some .int)) {r : Int} {μ' : Mem} : ∀ (n : Nat) (x0 x1 x2 x3 x4 x5 x6 : Int) (μ : Mem) (H : Heap) (locs : List Loc) (ls : Array Slot), f_X9_takeWord_w42 n x0 x1 x2 x3 x4 x5 x6 μ = some (r, μ') → isK x0 9 → Hw D b μ s.heap H locs → lvh b ls 7 [(0, 2, x0), (1, 0, x1), (2, 0, x2), (3, 0, x3), (4, 0, x4), (5, 0, x5), (6, 0, x6)] → W p l e (rm 8) s m args below meth c H locs 0 0 (QM below args s D b (some (.int (jI r))) μ') (F0 m 42 ls []) := by
  intro n
  induction n with
  | zero => intro x0 x1 x2 x3 x4 x5 x6 μ H locs ls hf; cases hf
  | succ n ih =>
    intro x0 x1 x2 x3 x4 x5 x6 μ H locs ls hf t0 hw hl
    rw [f_X9_takeWord_w42.eq_2] at hf
    refine r_iload C hl (kx := 6) rfl dX9_takeWord_42 ?_
    refine r_ldcS0_9 C dX9_takeWord_44 ?_
    refine r_slen0 C hw kl_9_77 (lvh_sz hl) (by decide) (Nat.le_of_ble_eq_true rfl) dX9_takeWord_46 (fun H locs hw => ?_)
    refine r_icmp_ge C (tgt := 105) (by decide) dX9_takeWord_49 (fun c1 => ?_) (fun c1 => ?_)
    · have hf := ite_t c1 hf
      refine r_aload_n C hl (kx := 0) rfl rfl dX9_takeWord_105 ?_
      refine r_iload_n C hl (kx := 3) rfl rfl dX9_takeWord_106 ?_
      refine r_iload_n C hl (kx := 1) rfl rfl dX9_takeWord_107 ?_
      refine r_iconst C dX9_takeWord_108 ?_
      obtain ⟨r3, μ2, e4, hf⟩ := bn_some hf
      refine r_callVn C hw (K := [(0, x3), (0, x1), (0, 0)]) ok9 t0 (c_X9_keep l D b t0 e4) mi_X9_keep in_X9_keep se_X9_keep kl_9_56 rfl rfl (lvh_sz hl) (by decide) (Kr := []) rfl (Nat.le_of_ble_eq_true rfl) dX9_takeWord_109 (fun H locs hw => ?_)
      refine r_iload_n C hl (kx := 2) rfl rfl dX9_takeWord_112 ?_
      exact r_iret C hw hf dX9_takeWord_113
    · have hf := ite_f c1 hf
      refine r_ldcS0_9 C dX9_takeWord_52 ?_
      refine r_iload C hl (kx := 6) rfl dX9_takeWord_54 ?_
      obtain ⟨g5, hf⟩ := gd_some hf
      refine r_schar0 C hw g5 kl_9_80 (lvh_sz hl) (by decide) (Nat.le_of_ble_eq_true rfl) dX9_takeWord_56 (fun H locs hw => ?_)
      refine r_bipush C (by decide) dX9_takeWord_59 ?_
      refine r_icmp_ne C (tgt := 99) (by decide) dX9_takeWord_61 (fun c6 => ?_) (fun c6 => ?_)
      · have hf := ite_f c6 hf
        exact w_X9_takeWord_99 C _ ih hf t0 hw (lvh_sub hl [0, 1, 2, 3, 4, 5, 6] rfl)
      · have hf := ite_t c6 hf
        refine r_iload C hl (kx := 6) rfl dX9_takeWord_64 ?_
        refine r_iload C hl (kx := 4) rfl dX9_takeWord_66 ?_
        refine r_isub C dX9_takeWord_68 ?_
        refine r_iload_n C hl (kx := 2) rfl rfl dX9_takeWord_69 ?_
        refine r_iload_n C hl (kx := 1) rfl rfl dX9_takeWord_70 ?_
        refine r_isub C dX9_takeWord_71 ?_
        refine r_icmp_ne C (tgt := 90) (by decide) dX9_takeWord_72 (fun c7 => ?_) (fun c7 => ?_)
        · have hf := ite_f c7 hf
          exact w_X9_takeWord_90 C _ ih hf t0 hw (lvh_sub hl [0, 1, 2, 3, 5, 6] rfl)
        · have hf := ite_t c7 hf
          refine r_aload_n C hl (kx := 0) rfl rfl dX9_takeWord_75 ?_
          refine r_iload C hl (kx := 4) rfl dX9_takeWord_76 ?_
          refine r_iload C hl (kx := 6) rfl dX9_takeWord_78 ?_
          refine r_iload_n C hl (kx := 1) rfl rfl dX9_takeWord_80 ?_
          obtain ⟨r9, μ8, e10, hf⟩ := bn_some hf
          refine r_callVv C hw (K := [(0, x4), (0, x6), (0, x1)]) ok9 t0 (c_X9_isSame l D b t0 e10) mi_X9_isSame in_X9_isSame se_X9_isSame kl_9_84 rfl rfl (lvh_sz hl) (by decide) (Kr := []) rfl (Nat.le_of_ble_eq_true rfl) dX9_takeWord_81 (fun H locs hw => ?_)
          refine r_if_eq C (tgt := 90) (by decide) dX9_takeWord_84 (fun c11 => ?_) (fun c11 => ?_)
          · have hf := ite_t c11 hf
            exact w_X9_takeWord_90 C _ ih hf t0 hw (lvh_sub hl [0, 1, 2, 3, 5, 6] rfl)
          · have hf := ite_f c11 hf
            refine r_iload C hl (kx := 5) rfl dX9_takeWord_87 ?_
            refine r_istore_n C hl (by decide) (L' := [(3, 0, x5), (0, 2, x0), (1, 0, x1), (2, 0, x2), (4, 0, x4), (5, 0, x5), (6, 0, x6)]) rfl rfl dX9_takeWord_89 (fun ls hl => ?_)
            exact w_X9_takeWord_90 C _ ih hf t0 hw (lvh_sub hl [1, 2, 3, 0, 5, 6] rfl)
set_option maxHeartbeats 4000000 in
set_option maxRecDepth 20000 in
theorem w_X9_takeWord_29 (C : Cx p s m args meth c D b cX9_takeWord 7 RX9 (some .int)) {r : Int} {μ' : Mem} {x0 x1 x2 : Int} {μ : Mem} {H : Heap} {locs : List Loc} {ls : Array Slot} (hf : f_X9_takeWord_j29 x0 x1 x2 μ = some (r, μ')) (t0 : isK x0 9) (hw : Hw D b μ s.heap H locs) (hl : lvh b ls 7 [(0, 2, x0), (1, 0, x1), (2, 0, x2)]) : W p l e (rm 8) s m args below meth c H locs 0 0 (QM below args s D b (some (.int (jI r))) μ') (F0 m 29 ls []) := by
  unfold f_X9_takeWord_j29 at hf
  refine r_iconst C dX9_takeWord_29 ?_
  refine r_istore_n C hl (by decide) (L' := [(3, 0, 3), (0, 2, x0), (1, 0, x1), (2, 0, x2)]) rfl rfl dX9_takeWord_30 (fun ls hl => ?_)
  refine r_iconst C dX9_takeWord_31 ?_
  refine r_istore C hl (by decide) (L' := [(4, 0, 0), (3, 0, 3), (0, 2, x0), (1, 0, x1), (2, 0, x2)]) rfl dX9_takeWord_32 (fun ls hl => ?_)
  refine r_sipush C (by decide) dX9_takeWord_34 ?_
  refine r_istore C hl (by decide) (L' := [(5, 0, 128), (4, 0, 0), (3, 0, 3), (0, 2, x0), (1, 0, x1), (2, 0, x2)]) rfl dX9_takeWord_37 (fun ls hl => ?_)
  refine r_iconst C dX9_takeWord_39 ?_
  refine r_istore C hl (by decide) (L' := [(6, 0, 0), (5, 0, 128), (4, 0, 0), (3, 0, 3), (0, 2, x0), (1, 0, x1), (2, 0, x2)]) rfl dX9_takeWord_40 (fun ls hl => ?_)
  exact w_X9_takeWord_42 C FU _ _ _ _ _ _ _ _ _ _ _ hf t0 hw (lvh_sub hl [4, 5, 6, 3, 2, 1, 0] rfl)
set_option maxHeartbeats 4000000 in
set_option maxRecDepth 20000 in
theorem w_X9_takeWord_4 (C : Cx p s m args meth c D b cX9_takeWord 7 RX9 (some .int)) {r : Int} {μ' : Mem} : ∀ (n : Nat) (x0 x1 x2 : Int) (μ : Mem) (H : Heap) (locs : List Loc) (ls : Array Slot), f_X9_takeWord_w4 n x0 x1 x2 μ = some (r, μ') → isK x0 9 → Hw D b μ s.heap H locs → lvh b ls 7 [(0, 2, x0), (1, 0, x1), (2, 0, x2)] → W p l e (rm 8) s m args below meth c H locs 0 0 (QM below args s D b (some (.int (jI r))) μ') (F0 m 4 ls []) := by
  intro n
  induction n with
  | zero => intro x0 x1 x2 μ H locs ls hf; cases hf
  | succ n ih =>
    intro x0 x1 x2 μ H locs ls hf t0 hw hl
    rw [f_X9_takeWord_w4.eq_2] at hf
    refine r_iload_n C hl (kx := 2) rfl rfl dX9_takeWord_4 ?_
    refine r_aload_n C hl (kx := 0) rfl rfl dX9_takeWord_5 ?_
    refine gf_9_25 C hw t0 dX9_takeWord_6 ?_
    refine r_icmp_ge C (tgt := 29) (by decide) dX9_takeWord_9 (fun c1 => ?_) (fun c1 => ?_)
    · have hf := ite_t c1 hf
      exact w_X9_takeWord_29 C hf t0 hw (lvh_sub hl [0, 1, 2] rfl)
    · have hf := ite_f c1 hf
      refine r_aload_n C hl (kx := 0) rfl rfl dX9_takeWord_12 ?_
      refine r_iload_n C hl (kx := 2) rfl rfl dX9_takeWord_13 ?_
      obtain ⟨r3, μ2, e4, hf⟩ := bn_some hf
      refine r_callVv C hw (K := [(0, x2)]) ok9 t0 (c_X9_byteAt l D b t0 e4) mi_X9_byteAt in_X9_byteAt se_X9_byteAt kl_9_32 rfl rfl (lvh_sz hl) (by decide) (Kr := []) rfl (Nat.le_of_ble_eq_true rfl) dX9_takeWord_14 (fun H locs hw => ?_)
      obtain ⟨r6, μ5, e7, hf⟩ := bn_some hf
      refine r_callSv C hw (K := [(0, r3)]) (c_X9_isLetter l D b e7) mi_X9_isLetter st_X9_isLetter kl_9_36 rfl rfl (lvh_sz hl) (by decide) (Kr := []) rfl (Nat.le_of_ble_eq_true rfl) dX9_takeWord_17 (fun H locs hw => ?_)
      refine r_if_eq C (tgt := 29) (by decide) dX9_takeWord_20 (fun c8 => ?_) (fun c8 => ?_)
      · have hf := ite_t c8 hf
        exact w_X9_takeWord_29 C hf t0 hw (lvh_sub hl [0, 1, 2] rfl)
      · have hf := ite_f c8 hf
        refine r_iinc C hl (kx := 2) rfl (by decide) (L' := [(2, 0, (x2 + 1)), (0, 2, x0), (1, 0, x1)]) rfl dX9_takeWord_23 (fun ls hl => ?_)
        refine r_goto C (tgt := 4) (by decide) dX9_takeWord_26 ?_
        exact ih _ _ _ _ _ _ _ hf t0 hw (lvh_sub hl [1, 2, 0] rfl)
set_option maxHeartbeats 4000000 in
set_option maxRecDepth 20000 in
theorem w_X9_takeWord_0 (C : Cx p s m args meth c D b cX9_takeWord 7 RX9 (some .int)) {r : Int} {μ' : Mem} {x0 x1 : Int} {μ : Mem} {H : Heap} {locs : List Loc} {ls : Array Slot} (hf : f_X9_takeWord x0 x1 μ = some (r, μ')) (t0 : isK x0 9) (hw : Hw D b μ s.heap H locs) (hl : lvh b ls 7 [(0, 2, x0), (1, 0, x1)]) : W p l e (rm 8) s m args below meth c H locs 0 0 (QM below args s D b (some (.int (jI r))) μ') (F0 m 0 ls []) := by
  unfold f_X9_takeWord at hf
  refine r_iload_n C hl (kx := 1) rfl rfl dX9_takeWord_0 ?_
  refine r_iconst C dX9_takeWord_1 ?_
  refine r_iadd C dX9_takeWord_2 ?_
  obtain ⟨v1, e2, hf⟩ := nm_some hf
  refine top_i e2 ?_
  refine r_istore_n C hl (by decide) (L' := [(2, 0, v1), (0, 2, x0), (1, 0, x1)]) rfl rfl dX9_takeWord_3 (fun ls hl => ?_)
  exact w_X9_takeWord_4 C FU _ _ _ _ _ _ _ hf t0 hw (lvh_sub hl [1, 2, 0] rfl)
theorem c_X9_takeWord (l : Launch) (D : Ds) (b : Nat) {x0 x1 : Int} {μ μ' : Mem} {r : Int} (t0 : isK x0 9) (hf : f_X9_takeWord x0 x1 μ = some (r, μ')) : Ctr l D b yX9_takeWord cX9_takeWord 7 (some .int) 8 [(2, x0), (0, x1)] μ (some (.int (jI r))) μ' := by
  refine Ctr.of (by decide +kernel) (Nat.le_of_ble_eq_true rfl) ?_
  intro p e s m below meth c C hw ls hl
  exact w_X9_takeWord_0 C hf t0 hw hl
set_option maxHeartbeats 4000000 in
set_option maxRecDepth 20000 in
theorem w_X9_isDigit_0 (C : Cx p s m args meth c D b cX9_isDigit 1 RX9 (some .boolean)) {r : Int} {μ' : Mem} {x0 : Int} {μ : Mem} {H : Heap} {locs : List Loc} {ls : Array Slot} (hf : f_X9_isDigit x0 μ = some (r, μ')) (hw : Hw D b μ s.heap H locs) (hl : lvh b ls 1 [(0, 0, x0)]) : W p l e (rm 0) s m args below meth c H locs 0 0 (QM below args s D b (some (.int (jI r))) μ') (F0 m 0 ls []) := by
  unfold f_X9_isDigit at hf
  refine r_iload_n C hl (kx := 0) rfl rfl dX9_isDigit_0 ?_
  refine r_bipush C (by decide) dX9_isDigit_1 ?_
  refine r_icmp_lt C (tgt := 16) (by decide) dX9_isDigit_3 (fun c1 => ?_) (fun c1 => ?_)
  · have hf := ite_t c1 hf
    refine r_iconst C dX9_isDigit_16 ?_
    exact r_zret C hw (by decide) hf dX9_isDigit_17
  · have hf := ite_f c1 hf
    refine r_iload_n C hl (kx := 0) rfl rfl dX9_isDigit_6 ?_
    refine r_bipush C (by decide) dX9_isDigit_7 ?_
    refine r_icmp_gt C (tgt := 16) (by decide) dX9_isDigit_9 (fun c2 => ?_) (fun c2 => ?_)
    · have hf := ite_t c2 hf
      refine r_iconst C dX9_isDigit_16 ?_
      exact r_zret C hw (by decide) hf dX9_isDigit_17
    · have hf := ite_f c2 hf
      refine r_iconst C dX9_isDigit_12 ?_
      refine r_goto C (tgt := 17) (by decide) dX9_isDigit_13 ?_
      exact r_zret C hw (by decide) hf dX9_isDigit_17
theorem c_X9_isDigit (l : Launch) (D : Ds) (b : Nat) {x0 : Int} {μ μ' : Mem} {r : Int} (hf : f_X9_isDigit x0 μ = some (r, μ')) : Ctr l D b yX9_isDigit cX9_isDigit 1 (some .boolean) 0 [(0, x0)] μ (some (.int (jI r))) μ' := by
  refine Ctr.of (by decide +kernel) (Nat.le_of_ble_eq_true rfl) ?_
  intro p e s m below meth c C hw ls hl
  exact w_X9_isDigit_0 C hf hw hl
set_option maxHeartbeats 4000000 in
set_option maxRecDepth 20000 in
theorem w_X9_takeDigits_86 (C : Cx p s m args meth c D b cX9_takeDigits 5 RX9 (some .int)) {r : Int} {μ' : Mem} {x2 s0 s1 s2 s3 : Int} {μ : Mem} {H : Heap} {locs : List Loc} {ls : Array Slot} (hf : f_X9_takeDigits_j86 x2 s0 s1 s2 s3 μ = some (r, μ')) (hw : Hw D b μ s.heap H locs) (hl : lvh b ls 5 [(2, 0, x2)]) : W p l e (rm 1) s m args below meth c H locs 0 0 (QM below args s D b (some (.int (jI r))) μ') (F0 m 86 ls [.int (jI s3), .int (jI s2), .int (jI s1), rfv b s0]) := by
  unfold f_X9_takeDigits_j86 at hf
  obtain ⟨g1, hf⟩ := gd_some hf
  obtain ⟨r3, μ2, e4, hf⟩ := bn_some hf
  refine r_callVn C hw (K := [(0, s1), (0, s2), (0, s3)]) ok9 g1 (c_X9_keep l D b g1 e4) mi_X9_keep in_X9_keep se_X9_keep kl_9_56 rfl rfl (lvh_sz hl) (by decide) (Kr := []) rfl (Nat.le_of_ble_eq_true rfl) dX9_takeDigits_86 (fun H locs hw => ?_)
  refine r_iload_n C hl (kx := 0) rfl rfl dX9_takeDigits_89 ?_
  exact r_iret C hw hf dX9_takeDigits_90
set_option maxHeartbeats 4000000 in
set_option maxRecDepth 20000 in
theorem w_X9_takeDigits_75 (C : Cx p s m args meth c D b cX9_takeDigits 5 RX9 (some .int)) {r : Int} {μ' : Mem} {x1 x2 x3 x4 s0 s1 : Int} {μ : Mem} {H : Heap} {locs : List Loc} {ls : Array Slot} (hf : f_X9_takeDigits_j75 x1 x2 x3 x4 s0 s1 μ = some (r, μ')) (hw : Hw D b μ s.heap H locs) (hl : lvh b ls 5 [(1, 0, x1), (2, 0, x2), (3, 0, x3), (4, 0, x4)]) : W p l e (rm 1) s m args below meth c H locs 0 0 (QM below args s D b (some (.int (jI r))) μ') (F0 m 75 ls [.int (jI s1), rfv b s0]) := by
  unfold f_X9_takeDigits_j75 at hf
  refine r_iload_n C hl (kx := 0) rfl rfl dX9_takeDigits_75 ?_
  refine r_iload C hl (kx := 3) rfl dX9_takeDigits_76 ?_
  refine r_if_eq C (tgt := 85) (by decide) dX9_takeDigits_78 (fun c1 => ?_) (fun c1 => ?_)
  · have hf := ite_t c1 hf
    refine r_iconst C dX9_takeDigits_85 ?_
    exact w_X9_takeDigits_86 C hf hw (lvh_sub hl [1] rfl)
  · have hf := ite_f c1 hf
    refine r_iload_n C hl (kx := 2) rfl rfl dX9_takeDigits_81 ?_
    refine r_goto C (tgt := 86) (by decide) dX9_takeDigits_82 ?_
    exact w_X9_takeDigits_86 C hf hw (lvh_sub hl [1] rfl)
set_option maxHeartbeats 4000000 in
set_option maxRecDepth 20000 in
theorem w_X9_takeDigits_62 (C : Cx p s m args meth c D b cX9_takeDigits 5 RX9 (some .int)) {r : Int} {μ' : Mem} {x0 x1 x2 x3 s0 : Int} {μ : Mem} {H : Heap} {locs : List Loc} {ls : Array Slot} (hf : f_X9_takeDigits_j62 x0 x1 x2 x3 s0 μ = some (r, μ')) (t0 : isK x0 9) (hw : Hw D b μ s.heap H locs) (hl : lvh b ls 5 [(0, 2, x0), (1, 0, x1), (2, 0, x2), (3, 0, x3)]) : W p l e (rm 1) s m args below meth c H locs 0 0 (QM below args s D b (some (.int (jI r))) μ') (F0 m 62 ls [.int (jI s0)]) := by
  unfold f_X9_takeDigits_j62 at hf
  refine r_istore C hl (by decide) (L' := [(4, 0, s0), (0, 2, x0), (1, 0, x1), (2, 0, x2), (3, 0, x3)]) rfl dX9_takeDigits_62 (fun ls hl => ?_)
  refine r_aload_n C hl (kx := 1) rfl rfl dX9_takeDigits_64 ?_
  refine r_iload C hl (kx := 0) rfl dX9_takeDigits_65 ?_
  refine r_if_eq C (tgt := 74) (by decide) dX9_takeDigits_67 (fun c1 => ?_) (fun c1 => ?_)
  · have hf := ite_t c1 hf
    refine r_iconst C dX9_takeDigits_74 ?_
    exact w_X9_takeDigits_75 C hf hw (lvh_sub hl [2, 3, 4, 0] rfl)
  · have hf := ite_f c1 hf
    refine r_iconst C dX9_takeDigits_70 ?_
    refine r_goto C (tgt := 75) (by decide) dX9_takeDigits_71 ?_
    exact w_X9_takeDigits_75 C hf hw (lvh_sub hl [2, 3, 4, 0] rfl)
set_option maxHeartbeats 4000000 in
set_option maxRecDepth 20000 in
theorem w_X9_takeDigits_50 (C : Cx p s m args meth c D b cX9_takeDigits 5 RX9 (some .int)) {r : Int} {μ' : Mem} {x0 x1 x2 x3 : Int} {μ : Mem} {H : Heap} {locs : List Loc} {ls : Array Slot} (hf : f_X9_takeDigits_j50 x0 x1 x2 x3 μ = some (r, μ')) (t0 : isK x0 9) (hw : Hw D b μ s.heap H locs) (hl : lvh b ls 5 [(0, 2, x0), (1, 0, x1), (2, 0, x2), (3, 0, x3)]) : W p l e (rm 1) s m args below meth c H locs 0 0 (QM below args s D b (some (.int (jI r))) μ') (F0 m 50 ls []) := by
  unfold f_X9_takeDigits_j50 at hf
  refine r_iload_n C hl (kx := 2) rfl rfl dX9_takeDigits_50 ?_
  refine r_iload_n C hl (kx := 1) rfl rfl dX9_takeDigits_51 ?_
  refine r_isub C dX9_takeDigits_52 ?_
  refine r_iconst C dX9_takeDigits_53 ?_
  refine r_icmp_gt C (tgt := 61) (by decide) dX9_takeDigits_54 (fun c1 => ?_) (fun c1 => ?_)
  · have hf := ite_t c1 hf
    refine r_iconst C dX9_takeDigits_61 ?_
    exact w_X9_takeDigits_62 C hf t0 hw (lvh_sub hl [0, 1, 2, 3] rfl)
  · have hf := ite_f c1 hf
    refine r_iconst C dX9_takeDigits_57 ?_
    refine r_goto C (tgt := 62) (by decide) dX9_takeDigits_58 ?_
    exact w_X9_takeDigits_62 C hf t0 hw (lvh_sub hl [0, 1, 2, 3] rfl)
set_option maxHeartbeats 4000000 in
set_option maxRecDepth 20000 in
theorem w_X9_takeDigits_44 (C : Cx p s m args meth c D b cX9_takeDigits 5 RX9 (some .int)) {r : Int} {μ' : Mem} (k4 : Int → Int → Int → Int → Mem → Option (Int × Mem)) (h4 : ∀ (x0 x1 x2 x3 : Int) (μ : Mem) (H : Heap) (locs : List Loc) (ls : Array Slot), k4 x0 x1 x2 x3 μ = some (r, μ') → isK x0 9 → Hw D b μ s.heap H locs → lvh b ls 5 [(0, 2, x0), (1, 0, x1), (2, 0, x2), (3, 0, x3)] → W p l e (rm 1) s m args below meth c H locs 0 0 (QM below args s D b (some (.int (jI r))) μ') (F0 m 4 ls [])) {x0 x1 x2 x3 : Int} {μ : Mem} {H : Heap} {locs : List Loc} {ls : Array Slot} (hf : f_X9_takeDigits_j44 k4 x0 x1 x2 x3 μ = some (r, μ')) (t0 : isK x0 9) (hw : Hw D b μ s.heap H locs) (hl : lvh b ls 5 [(0, 2, x0), (1, 0, x1), (2, 0, x2), (3, 0, x3)]) : W p l e (rm 1) s m args below meth c H locs 0 0 (QM below args s D b (some (.int (jI r))) μ') (F0 m 44 ls []) := by
  unfold f_X9_takeDigits_j44 at hf
  refine r_iinc C hl (kx := 2) rfl (by decide) (L' := [(2, 0, (x2 + 1)), (0, 2, x0), (1, 0, x1), (3, 0, x3)]) rfl dX9_takeDigits_44 (fun ls hl => ?_)
  refine r_goto C (tgt := 4) (by decide) dX9_takeDigits_47 ?_
  exact h4 _ _ _ _ _ _ _ _ hf t0 hw (lvh_sub hl [1, 2, 0, 3] rfl)
set_option maxHeartbeats 4000000 in
set_option maxRecDepth 20000 in
theorem w_X9_takeDigits_4 (C : Cx p s m args meth c D b cX9_takeDigits 5 RX9 (some .int)) {r : Int} {μ' : Mem} : ∀ (n : Nat) (x0 x1 x2 x3 : Int) (μ : Mem) (H : Heap) (locs : List Loc) (ls : Array Slot), f_X9_takeDigits_w4 n x0 x1 x2 x3 μ = some (r, μ') → isK x0 9 → Hw D b μ s.heap H locs → lvh b ls 5 [(0, 2, x0), (1, 0, x1), (2, 0, x2), (3, 0, x3)] → W p l e (rm 1) s m args below meth c H locs 0 0 (QM below args s D b (some (.int (jI r))) μ') (F0 m 4 ls []) := by
  intro n
  induction n with
  | zero => intro x0 x1 x2 x3 μ H locs ls hf; cases hf
  | succ n ih =>
    intro x0 x1 x2 x3 μ H locs ls hf t0 hw hl
    rw [f_X9_takeDigits_w4.eq_2] at hf
    refine r_iload_n C hl (kx := 2) rfl rfl dX9_takeDigits_4 ?_
    refine r_aload_n C hl (kx := 0) rfl rfl dX9_takeDigits_5 ?_
    refine gf_9_25 C hw t0 dX9_takeDigits_6 ?_
    refine r_icmp_ge C (tgt := 50) (by decide) dX9_takeDigits_9 (fun c1 => ?_) (fun c1 => ?_)
    · have hf := ite_t c1 hf
      exact w_X9_takeDigits_50 C hf t0 hw (lvh_sub hl [0, 1, 2, 3] rfl)
    · have hf := ite_f c1 hf
      refine r_aload_n C hl (kx := 0) rfl rfl dX9_takeDigits_12 ?_
      refine r_iload_n C hl (kx := 2) rfl rfl dX9_takeDigits_13 ?_
      obtain ⟨r3, μ2, e4, hf⟩ := bn_some hf
      refine r_callVv C hw (K := [(0, x2)]) ok9 t0 (c_X9_byteAt l D b t0 e4) mi_X9_byteAt in_X9_byteAt se_X9_byteAt kl_9_32 rfl rfl (lvh_sz hl) (by decide) (Kr := []) rfl (Nat.le_of_ble_eq_true rfl) dX9_takeDigits_14 (fun H locs hw => ?_)
      obtain ⟨r6, μ5, e7, hf⟩ := bn_some hf
      refine r_callSv C hw (K := [(0, r3)]) (c_X9_isDigit l D b e7) mi_X9_isDigit st_X9_isDigit kl_9_43 rfl rfl (lvh_sz hl) (by decide) (Kr := []) rfl (Nat.le_of_ble_eq_true rfl) dX9_takeDigits_17 (fun H locs hw => ?_)
      refine r_if_eq C (tgt := 50) (by decide) dX9_takeDigits_20 (fun c8 => ?_) (fun c8 => ?_)
      · have hf := ite_t c8 hf
        exact w_X9_takeDigits_50 C hf t0 hw (lvh_sub hl [0, 1, 2, 3] rfl)
      · have hf := ite_f c8 hf
        refine r_iload_n C hl (kx := 2) rfl rfl dX9_takeDigits_23 ?_
        refine r_iload_n C hl (kx := 1) rfl rfl dX9_takeDigits_24 ?_
        refine r_isub C dX9_takeDigits_25 ?_
        refine r_iconst C dX9_takeDigits_26 ?_
        refine r_icmp_ge C (tgt := 44) (by decide) dX9_takeDigits_27 (fun c9 => ?_) (fun c9 => ?_)
        · have hf := ite_t c9 hf
          exact w_X9_takeDigits_44 C _ ih hf t0 hw (lvh_sub hl [0, 1, 2, 3] rfl)
        · have hf := ite_f c9 hf
          refine r_iload_n C hl (kx := 3) rfl rfl dX9_takeDigits_30 ?_
          refine r_bipush C (by decide) dX9_takeDigits_31 ?_
          refine r_imul C dX9_takeDigits_33 ?_
          refine r_aload_n C hl (kx := 0) rfl rfl dX9_takeDigits_34 ?_
          refine r_iload_n C hl (kx := 2) rfl rfl dX9_takeDigits_35 ?_
          obtain ⟨r11, μ10, e12, hf⟩ := bn_some hf
          refine r_callVv C hw (K := [(0, x2)]) ok9 t0 (c_X9_byteAt l D b t0 e12) mi_X9_byteAt in_X9_byteAt se_X9_byteAt kl_9_32 rfl rfl (lvh_sz hl) (by decide) (Kr := [(0, (x3 * 10))]) rfl (Nat.le_of_ble_eq_true rfl) dX9_takeDigits_36 (fun H locs hw => ?_)
          refine r_iadd C dX9_takeDigits_39 ?_
          refine r_bipush C (by decide) dX9_takeDigits_40 ?_
          refine r_isub C dX9_takeDigits_42 ?_
          obtain ⟨v13, e14, hf⟩ := nm_some hf
          refine top_i e14 ?_
          refine r_istore_n C hl (by decide) (L' := [(3, 0, v13), (0, 2, x0), (1, 0, x1), (2, 0, x2)]) rfl rfl dX9_takeDigits_43 (fun ls hl => ?_)
          exact w_X9_takeDigits_44 C _ ih hf t0 hw (lvh_sub hl [1, 2, 3, 0] rfl)
set_option maxHeartbeats 4000000 in
set_option maxRecDepth 20000 in
theorem w_X9_takeDigits_0 (C : Cx p s m args meth c D b cX9_takeDigits 5 RX9 (some .int)) {r : Int} {μ' : Mem} {x0 x1 : Int} {μ : Mem} {H : Heap} {locs : List Loc} {ls : Array Slot} (hf : f_X9_takeDigits x0 x1 μ = some (r, μ')) (t0 : isK x0 9) (hw : Hw D b μ s.heap H locs) (hl : lvh b ls 5 [(0, 2, x0), (1, 0, x1)]) : W p l e (rm 1) s m args below meth c H locs 0 0 (QM below args s D b (some (.int (jI r))) μ') (F0 m 0 ls []) := by
  unfold f_X9_takeDigits at hf
  refine r_iload_n C hl (kx := 1) rfl rfl dX9_takeDigits_0 ?_
  refine r_istore_n C hl (by decide) (L' := [(2, 0, x1), (0, 2, x0), (1, 0, x1)]) rfl rfl dX9_takeDigits_1 (fun ls hl => ?_)
  refine r_iconst C dX9_takeDigits_2 ?_
  refine r_istore_n C hl (by decide) (L' := [(3, 0, 0), (2, 0, x1), (0, 2, x0), (1, 0, x1)]) rfl rfl dX9_takeDigits_3 (fun ls hl => ?_)
  exact w_X9_takeDigits_4 C FU _ _ _ _ _ _ _ _ hf t0 hw (lvh_sub hl [2, 3, 1, 0] rfl)
theorem c_X9_takeDigits (l : Launch) (D : Ds) (b : Nat) {x0 x1 : Int} {μ μ' : Mem} {r : Int} (t0 : isK x0 9) (hf : f_X9_takeDigits x0 x1 μ = some (r, μ')) : Ctr l D b yX9_takeDigits cX9_takeDigits 5 (some .int) 1 [(2, x0), (0, x1)] μ (some (.int (jI r))) μ' := by
  refine Ctr.of (by decide +kernel) (Nat.le_of_ble_eq_true rfl) ?_
  intro p e s m below meth c C hw ls hl
  exact w_X9_takeDigits_0 C hf t0 hw hl
set_option maxHeartbeats 4000000 in
set_option maxRecDepth 20000 in
theorem w_X9_advance_0 (C : Cx p s m args meth c D b cX9_advance 1 RX9 (none)) {r : Int} {μ' : Mem} {x0 : Int} {μ : Mem} {H : Heap} {locs : List Loc} {ls : Array Slot} (hf : f_X9_advance x0 μ = some (r, μ')) (t0 : isK x0 9) (hw : Hw D b μ s.heap H locs) (hl : lvh b ls 1 [(0, 2, x0)]) : W p l e (rm 0) s m args below meth c H locs 0 0 (QM below args s D b none μ') (F0 m 0 ls []) := by
  unfold f_X9_advance at hf
  refine r_aload_n C hl (kx := 0) rfl rfl dX9_advance_0 ?_
  refine gf_9_60 C hw t0 dX9_advance_1 ?_
  refine r_if_lt C (tgt := 93) (by decide) dX9_advance_4 (fun c1 => ?_) (fun c1 => ?_)
  · have hf := ite_t c1 hf
    exact r_vret C hw hf dX9_advance_93
  · have hf := ite_f c1 hf
    refine r_aload_n C hl (kx := 0) rfl rfl dX9_advance_7 ?_
    refine gf_9_60 C hw t0 dX9_advance_8 ?_
    refine r_aload_n C hl (kx := 0) rfl rfl dX9_advance_11 ?_
    refine gf_9_29 C hw t0 dX9_advance_12 ?_
    refine r_icmp_ge C (tgt := 93) (by decide) dX9_advance_15 (fun c2 => ?_) (fun c2 => ?_)
    · have hf := ite_t c2 hf
      exact r_vret C hw hf dX9_advance_93
    · have hf := ite_f c2 hf
      refine r_aload_n C hl (kx := 0) rfl rfl dX9_advance_18 ?_
      refine gf_9_60 C hw t0 dX9_advance_19 ?_
      refine r_aload_n C hl (kx := 0) rfl rfl dX9_advance_22 ?_
      refine gf_9_9 C hw t0 dX9_advance_23 ?_
      refine r_alen1 C hw (n := 901) (ow_9_5 t0) (by decide) (z := 901) rfl dX9_advance_26 ?_
      refine r_icmp_ge C (tgt := 93) (by decide) dX9_advance_27 (fun c3 => ?_) (fun c3 => ?_)
      · have hf := ite_t c3 hf
        exact r_vret C hw hf dX9_advance_93
      · have hf := ite_f c3 hf
        refine r_aload_n C hl (kx := 0) rfl rfl dX9_advance_30 ?_
        refine r_aload_n C hl (kx := 0) rfl rfl dX9_advance_31 ?_
        refine gf_9_9 C hw t0 dX9_advance_32 ?_
        refine r_aload_n C hl (kx := 0) rfl rfl dX9_advance_35 ?_
        refine gf_9_60 C hw t0 dX9_advance_36 ?_
        obtain ⟨g4, hf⟩ := gd_some hf
        refine r_iald C hw (n := 901) (ow_9_5 t0) (j := (nrm (μ x0 7))) rfl g4 (by decide) dX9_advance_39 ?_
        refine r_sipush C (by decide) dX9_advance_40 ?_
        refine r_iand C dX9_advance_43 ?_
        obtain ⟨μ5, e6, hf⟩ := nm_some hf
        refine pf_9_66 C hw t0 dX9_advance_44 (fun H locs hw => ?_)
        rw [← e6] at hw
        refine r_aload_n C hl (kx := 0) rfl rfl dX9_advance_47 ?_
        refine r_aload_n C hl (kx := 0) rfl rfl dX9_advance_48 ?_
        refine gf_9_9 C hw t0 dX9_advance_49 ?_
        refine r_aload_n C hl (kx := 0) rfl rfl dX9_advance_52 ?_
        refine gf_9_60 C hw t0 dX9_advance_53 ?_
        obtain ⟨g7, hf⟩ := gd_some hf
        refine r_iald C hw (n := 901) (ow_9_5 t0) (j := (nrm (μ5 x0 7))) rfl g7 (by decide) dX9_advance_56 ?_
        refine r_bipush C (by decide) dX9_advance_57 ?_
        refine r_ishr C dX9_advance_59 ?_
        refine r_sipush C (by decide) dX9_advance_60 ?_
        refine r_iand C dX9_advance_63 ?_
        obtain ⟨μ8, e9, hf⟩ := nm_some hf
        refine pf_9_69 C hw t0 dX9_advance_64 (fun H locs hw => ?_)
        rw [← e9] at hw
        refine r_aload_n C hl (kx := 0) rfl rfl dX9_advance_67 ?_
        refine r_aload_n C hl (kx := 0) rfl rfl dX9_advance_68 ?_
        refine gf_9_9 C hw t0 dX9_advance_69 ?_
        refine r_aload_n C hl (kx := 0) rfl rfl dX9_advance_72 ?_
        refine gf_9_60 C hw t0 dX9_advance_73 ?_
        obtain ⟨g10, hf⟩ := gd_some hf
        refine r_iald C hw (n := 901) (ow_9_5 t0) (j := (nrm (μ8 x0 7))) rfl g10 (by decide) dX9_advance_76 ?_
        refine r_bipush C (by decide) dX9_advance_77 ?_
        refine r_ishr C dX9_advance_79 ?_
        obtain ⟨μ11, e12, hf⟩ := nm_some hf
        refine pf_9_72 C hw t0 dX9_advance_80 (fun H locs hw => ?_)
        rw [← e12] at hw
        refine r_aload_n C hl (kx := 0) rfl rfl dX9_advance_83 ?_
        refine r_dup C (rfv_cat _ _) dX9_advance_84 ?_
        refine gf_9_60 C hw t0 dX9_advance_85 ?_
        refine r_iconst C dX9_advance_88 ?_
        refine r_iadd C dX9_advance_89 ?_
        obtain ⟨μ13, e14, hf⟩ := nm_some hf
        refine pf_9_60 C hw t0 dX9_advance_90 (fun H locs hw => ?_)
        rw [← e14] at hw
        exact r_vret C hw hf dX9_advance_93
theorem c_X9_advance (l : Launch) (D : Ds) (b : Nat) {x0 : Int} {μ μ' : Mem} {r : Int} (t0 : isK x0 9) (hf : f_X9_advance x0 μ = some (r, μ')) : Ctr l D b yX9_advance cX9_advance 1 (none) 0 [(2, x0)] μ none μ' := by
  refine Ctr.of (by decide +kernel) (Nat.le_of_ble_eq_true rfl) ?_
  intro p e s m below meth c C hw ls hl
  exact w_X9_advance_0 C hf t0 hw hl
set_option maxHeartbeats 4000000 in
set_option maxRecDepth 20000 in
theorem w_X9_begin_142 (C : Cx p s m args meth c D b cX9_begin 6 RX9 (none)) {r : Int} {μ' : Mem} {x0 : Int} {μ : Mem} {H : Heap} {locs : List Loc} {ls : Array Slot} (hf : f_X9_begin_j142 x0 μ = some (r, μ')) (t0 : isK x0 9) (hw : Hw D b μ s.heap H locs) (hl : lvh b ls 6 [(0, 2, x0)]) : W p l e (rm 9) s m args below meth c H locs 0 0 (QM below args s D b none μ') (F0 m 142 ls []) := by
  unfold f_X9_begin_j142 at hf
  refine r_aload_n C hl (kx := 0) rfl rfl dX9_begin_142 ?_
  refine r_iconst C dX9_begin_143 ?_
  refine r_aload_n C hl (kx := 0) rfl rfl dX9_begin_144 ?_
  refine gf_9_25 C hw t0 dX9_begin_145 ?_
  refine r_iconst C dX9_begin_148 ?_
  obtain ⟨r2, μ1, e3, hf⟩ := bn_some hf
  refine r_callVn C hw (K := [(0, 0), (0, (μ x0 4)), (0, 0)]) ok9 t0 (c_X9_keep l D b t0 e3) mi_X9_keep in_X9_keep se_X9_keep kl_9_56 rfl rfl (lvh_sz hl) (by decide) (Kr := []) rfl (Nat.le_of_ble_eq_true rfl) dX9_begin_149 (fun H locs hw => ?_)
  refine r_aload_n C hl (kx := 0) rfl rfl dX9_begin_152 ?_
  refine r_iconst C dX9_begin_153 ?_
  obtain ⟨μ4, e5, hf⟩ := nm_some hf
  refine pf_9_60 C hw t0 dX9_begin_154 (fun H locs hw => ?_)
  rw [← e5] at hw
  refine r_aload_n C hl (kx := 0) rfl rfl dX9_begin_157 ?_
  obtain ⟨r7, μ6, e8, hf⟩ := bn_some hf
  refine r_callVn C hw (K := []) ok9 t0 (c_X9_advance l D b t0 e8) mi_X9_advance in_X9_advance se_X9_advance kl_9_63 rfl rfl (lvh_sz hl) (by decide) (Kr := []) rfl (Nat.le_of_ble_eq_true rfl) dX9_begin_158 (fun H locs hw => ?_)
  exact r_vret C hw hf dX9_begin_161
set_option maxHeartbeats 4000000 in
set_option maxRecDepth 20000 in
theorem w_X9_begin_136 (C : Cx p s m args meth c D b cX9_begin 6 RX9 (none)) {r : Int} {μ' : Mem} (k33 : Int → Int → Int → Mem → Option (Int × Mem)) (h33 : ∀ (x0 x3 x4 : Int) (μ : Mem) (H : Heap) (locs : List Loc) (ls : Array Slot), k33 x0 x3 x4 μ = some (r, μ') → isK x0 9 → Hw D b μ s.heap H locs → lvh b ls 6 [(0, 2, x0), (3, 0, x3), (4, 0, x4)] → W p l e (rm 9) s m args below meth c H locs 0 0 (QM below args s D b none μ') (F0 m 33 ls [])) {x0 x3 x4 : Int} {μ : Mem} {H : Heap} {locs : List Loc} {ls : Array Slot} (hf : f_X9_begin_j136 k33 x0 x3 x4 μ = some (r, μ')) (t0 : isK x0 9) (hw : Hw D b μ s.heap H locs) (hl : lvh b ls 6 [(0, 2, x0), (3, 0, x3), (4, 0, x4)]) : W p l e (rm 9) s m args below meth c H locs 0 0 (QM below args s D b none μ') (F0 m 136 ls []) := by
  unfold f_X9_begin_j136 at hf
  refine r_iinc C hl (kx := 2) rfl (by decide) (L' := [(4, 0, (x4 + 1)), (0, 2, x0), (3, 0, x3)]) rfl dX9_begin_136 (fun ls hl => ?_)
  refine r_goto C (tgt := 33) (by decide) dX9_begin_139 ?_
  exact h33 _ _ _ _ _ _ _ hf t0 hw (lvh_sub hl [1, 2, 0] rfl)
set_option maxHeartbeats 4000000 in
set_option maxRecDepth 20000 in
theorem w_X9_begin_70 (C : Cx p s m args meth c D b cX9_begin 6 RX9 (none)) {r : Int} {μ' : Mem} (k33 : Int → Int → Int → Mem → Option (Int × Mem)) (h33 : ∀ (x0 x3 x4 : Int) (μ : Mem) (H : Heap) (locs : List Loc) (ls : Array Slot), k33 x0 x3 x4 μ = some (r, μ') → isK x0 9 → Hw D b μ s.heap H locs → lvh b ls 6 [(0, 2, x0), (3, 0, x3), (4, 0, x4)] → W p l e (rm 9) s m args below meth c H locs 0 0 (QM below args s D b none μ') (F0 m 33 ls [])) {x0 x3 x4 : Int} {μ : Mem} {H : Heap} {locs : List Loc} {ls : Array Slot} (hf : f_X9_begin_j70 k33 x0 x3 x4 μ = some (r, μ')) (t0 : isK x0 9) (hw : Hw D b μ s.heap H locs) (hl : lvh b ls 6 [(0, 2, x0), (3, 0, x3), (4, 0, x4)]) : W p l e (rm 9) s m args below meth c H locs 0 0 (QM below args s D b none μ') (F0 m 70 ls []) := by
  unfold f_X9_begin_j70 at hf
  refine r_iinc C hl (kx := 1) rfl (by decide) (L' := [(3, 0, (x3 + 1)), (0, 2, x0), (4, 0, x4)]) rfl dX9_begin_70 (fun ls hl => ?_)
  refine r_goto C (tgt := 136) (by decide) dX9_begin_73 ?_
  exact w_X9_begin_136 C _ h33 hf t0 hw (lvh_sub hl [1, 0, 2] rfl)
set_option maxHeartbeats 4000000 in
set_option maxRecDepth 20000 in
theorem w_X9_begin_128 (C : Cx p s m args meth c D b cX9_begin 6 RX9 (none)) {r : Int} {μ' : Mem} (k33 : Int → Int → Int → Mem → Option (Int × Mem)) (h33 : ∀ (x0 x3 x4 : Int) (μ : Mem) (H : Heap) (locs : List Loc) (ls : Array Slot), k33 x0 x3 x4 μ = some (r, μ') → isK x0 9 → Hw D b μ s.heap H locs → lvh b ls 6 [(0, 2, x0), (3, 0, x3), (4, 0, x4)] → W p l e (rm 9) s m args below meth c H locs 0 0 (QM below args s D b none μ') (F0 m 33 ls [])) {x0 x3 x4 s0 s1 : Int} {μ : Mem} {H : Heap} {locs : List Loc} {ls : Array Slot} (hf : f_X9_begin_j128 k33 x0 x3 x4 s0 s1 μ = some (r, μ')) (t0 : isK x0 9) (hw : Hw D b μ s.heap H locs) (hl : lvh b ls 6 [(0, 2, x0), (3, 0, x3), (4, 0, x4)]) : W p l e (rm 9) s m args below meth c H locs 0 0 (QM below args s D b none μ') (F0 m 128 ls [.int (jI s1), rfv b s0]) := by
  unfold f_X9_begin_j128 at hf
  refine r_iload_n C hl (kx := 1) rfl rfl dX9_begin_128 ?_
  refine r_iconst C dX9_begin_129 ?_
  obtain ⟨g1, hf⟩ := gd_some hf
  obtain ⟨r3, μ2, e4, hf⟩ := bn_some hf
  refine r_callVn C hw (K := [(0, s1), (0, x3), (0, 0)]) ok9 g1 (c_X9_keep l D b g1 e4) mi_X9_keep in_X9_keep se_X9_keep kl_9_56 rfl rfl (lvh_sz hl) (by decide) (Kr := []) rfl (Nat.le_of_ble_eq_true rfl) dX9_begin_130 (fun H locs hw => ?_)
  refine r_iinc C hl (kx := 1) rfl (by decide) (L' := [(3, 0, (x3 + 1)), (0, 2, x0), (4, 0, x4)]) rfl dX9_begin_133 (fun ls hl => ?_)
  exact w_X9_begin_136 C _ h33 hf t0 hw (lvh_sub hl [1, 0, 2] rfl)
set_option maxHeartbeats 4000000 in
set_option maxRecDepth 20000 in
theorem w_X9_begin_33 (C : Cx p s m args meth c D b cX9_begin 6 RX9 (none)) {r : Int} {μ' : Mem} : ∀ (n : Nat) (x0 x3 x4 : Int) (μ : Mem) (H : Heap) (locs : List Loc) (ls : Array Slot), f_X9_begin_w33 n x0 x3 x4 μ = some (r, μ') → isK x0 9 → Hw D b μ s.heap H locs → lvh b ls 6 [(0, 2, x0), (3, 0, x3), (4, 0, x4)] → W p l e (rm 9) s m args below meth c H locs 0 0 (QM below args s D b none μ') (F0 m 33 ls []) := by
  intro n
  induction n with
  | zero => intro x0 x3 x4 μ H locs ls hf; cases hf
  | succ n ih =>
    intro x0 x3 x4 μ H locs ls hf t0 hw hl
    rw [f_X9_begin_w33.eq_2] at hf
    refine r_iload C hl (kx := 2) rfl dX9_begin_33 ?_
    refine r_sipush C (by decide) dX9_begin_35 ?_
    refine r_icmp_ge C (tgt := 142) (by decide) dX9_begin_38 (fun c1 => ?_) (fun c1 => ?_)
    · have hf := ite_t c1 hf
      exact w_X9_begin_142 C hf t0 hw (lvh_sub hl [0] rfl)
    · have hf := ite_f c1 hf
      refine r_iload_n C hl (kx := 1) rfl rfl dX9_begin_41 ?_
      refine r_aload_n C hl (kx := 0) rfl rfl dX9_begin_42 ?_
      refine gf_9_25 C hw t0 dX9_begin_43 ?_
      refine r_icmp_ge C (tgt := 142) (by decide) dX9_begin_46 (fun c2 => ?_) (fun c2 => ?_)
      · have hf := ite_t c2 hf
        exact w_X9_begin_142 C hf t0 hw (lvh_sub hl [0] rfl)
      · have hf := ite_f c2 hf
        refine r_aload_n C hl (kx := 0) rfl rfl dX9_begin_49 ?_
        refine r_iload_n C hl (kx := 1) rfl rfl dX9_begin_50 ?_
        obtain ⟨r4, μ3, e5, hf⟩ := bn_some hf
        refine r_callVv C hw (K := [(0, x3)]) ok9 t0 (c_X9_byteAt l D b t0 e5) mi_X9_byteAt in_X9_byteAt se_X9_byteAt kl_9_32 rfl rfl (lvh_sz hl) (by decide) (Kr := []) rfl (Nat.le_of_ble_eq_true rfl) dX9_begin_51 (fun H locs hw => ?_)
        refine r_istore C hl (by decide) (L' := [(5, 0, r4), (0, 2, x0), (3, 0, x3), (4, 0, x4)]) rfl dX9_begin_54 (fun ls hl => ?_)
        refine r_iload C hl (kx := 0) rfl dX9_begin_56 ?_
        refine r_bipush C (by decide) dX9_begin_58 ?_
        refine r_icmp_eq C (tgt := 70) (by decide) dX9_begin_60 (fun c6 => ?_) (fun c6 => ?_)
        · have hf := ite_t c6 hf
          exact w_X9_begin_70 C _ ih hf t0 hw (lvh_sub hl [1, 2, 3] rfl)
        · have hf := ite_f c6 hf
          refine r_iload C hl (kx := 0) rfl dX9_begin_63 ?_
          refine r_bipush C (by decide) dX9_begin_65 ?_
          refine r_icmp_ne C (tgt := 76) (by decide) dX9_begin_67 (fun c7 => ?_) (fun c7 => ?_)
          · have hf := ite_f c7 hf
            refine r_iload C hl (kx := 0) rfl dX9_begin_76 ?_
            obtain ⟨r9, μ8, e10, hf⟩ := bn_some hf
            refine r_callSv C hw (K := [(0, r4)]) (c_X9_isLetter l D b e10) mi_X9_isLetter st_X9_isLetter kl_9_36 rfl rfl (lvh_sz hl) (by decide) (Kr := []) rfl (Nat.le_of_ble_eq_true rfl) dX9_begin_78 (fun H locs hw => ?_)
            refine r_if_eq C (tgt := 93) (by decide) dX9_begin_81 (fun c11 => ?_) (fun c11 => ?_)
            · have hf := ite_t c11 hf
              refine r_iload C hl (kx := 0) rfl dX9_begin_93 ?_
              obtain ⟨r13, μ12, e14, hf⟩ := bn_some hf
              refine r_callSv C hw (K := [(0, r4)]) (c_X9_isDigit l D b e14) mi_X9_isDigit st_X9_isDigit kl_9_43 rfl rfl (lvh_sz hl) (by decide) (Kr := []) rfl (Nat.le_of_ble_eq_true rfl) dX9_begin_95 (fun H locs hw => ?_)
              refine r_if_eq C (tgt := 110) (by decide) dX9_begin_98 (fun c15 => ?_) (fun c15 => ?_)
              · have hf := ite_t c15 hf
                refine r_aload_n C hl (kx := 1) rfl rfl dX9_begin_110 ?_
                refine r_ldcS1_9 C dX9_begin_111 ?_
                refine r_iload C hl (kx := 0) rfl dX9_begin_113 ?_
                refine r_i2c C dX9_begin_115 ?_
                obtain ⟨g16, hf⟩ := gd_some hf
                refine r_sindex1 C hw g16 kl_9_51 (lvh_sz hl) (by decide) (Nat.le_of_ble_eq_true rfl) dX9_begin_116 (fun H locs hw => ?_)
                refine r_if_lt C (tgt := 127) (by decide) dX9_begin_119 (fun c17 => ?_) (fun c17 => ?_)
                · have hf := ite_t c17 hf
                  refine r_iconst C dX9_begin_127 ?_
                  exact w_X9_begin_128 C _ ih hf t0 hw (lvh_sub hl [1, 2, 3] rfl)
                · have hf := ite_f c17 hf
                  refine r_iload C hl (kx := 0) rfl dX9_begin_122 ?_
                  refine r_goto C (tgt := 128) (by decide) dX9_begin_124 ?_
                  exact w_X9_begin_128 C _ ih hf t0 hw (lvh_sub hl [1, 2, 3] rfl)
              · have hf := ite_f c15 hf
                refine r_aload_n C hl (kx := 1) rfl rfl dX9_begin_101 ?_
                refine r_iload_n C hl (kx := 2) rfl rfl dX9_begin_102 ?_
                obtain ⟨r19, μ18, e20, hf⟩ := bn_some hf
                refine r_callVv C hw (K := [(0, x3)]) ok9 t0 (c_X9_takeDigits l D b t0 e20) mi_X9_takeDigits in_X9_takeDigits se_X9_takeDigits kl_9_46 rfl rfl (lvh_sz hl) (by decide) (Kr := []) rfl (Nat.le_of_ble_eq_true rfl) dX9_begin_103 (fun H locs hw => ?_)
                refine r_istore_n C hl (by decide) (L' := [(3, 0, r19), (5, 0, r4), (0, 2, x0), (4, 0, x4)]) rfl rfl dX9_begin_106 (fun ls hl => ?_)
                refine r_goto C (tgt := 136) (by decide) dX9_begin_107 ?_
                exact w_X9_begin_136 C _ ih hf t0 hw (lvh_sub hl [2, 0, 3] rfl)
            · have hf := ite_f c11 hf
              refine r_aload_n C hl (kx := 1) rfl rfl dX9_begin_84 ?_
              refine r_iload_n C hl (kx := 2) rfl rfl dX9_begin_85 ?_
              obtain ⟨r22, μ21, e23, hf⟩ := bn_some hf
              refine r_callVv C hw (K := [(0, x3)]) ok9 t0 (c_X9_takeWord l D b t0 e23) mi_X9_takeWord in_X9_takeWord se_X9_takeWord kl_9_40 rfl rfl (lvh_sz hl) (by decide) (Kr := []) rfl (Nat.le_of_ble_eq_true rfl) dX9_begin_86 (fun H locs hw => ?_)
              refine r_istore_n C hl (by decide) (L' := [(3, 0, r22), (5, 0, r4), (0, 2, x0), (4, 0, x4)]) rfl rfl dX9_begin_89 (fun ls hl => ?_)
              refine r_goto C (tgt := 136) (by decide) dX9_begin_90 ?_
              exact w_X9_begin_136 C _ ih hf t0 hw (lvh_sub hl [2, 0, 3] rfl)
          · have hf := ite_t c7 hf
            exact w_X9_begin_70 C _ ih hf t0 hw (lvh_sub hl [1, 2, 3] rfl)
set_option maxHeartbeats 4000000 in
set_option maxRecDepth 20000 in
theorem w_X9_begin_20 (C : Cx p s m args meth c D b cX9_begin 6 RX9 (none)) {r : Int} {μ' : Mem} {x0 s0 s1 : Int} {μ : Mem} {H : Heap} {locs : List Loc} {ls : Array Slot} (hf : f_X9_begin_j20 x0 s0 s1 μ = some (r, μ')) (t0 : isK x0 9) (hw : Hw D b μ s.heap H locs) (hl : lvh b ls 6 [(0, 2, x0)]) : W p l e (rm 9) s m args below meth c H locs 0 0 (QM below args s D b none μ') (F0 m 20 ls [.int (jI s1), rfv b s0]) := by
  unfold f_X9_begin_j20 at hf
  obtain ⟨g1, hf⟩ := gd_some hf
  obtain ⟨μ2, e3, hf⟩ := nm_some hf
  refine pf_9_25 C hw g1 dX9_begin_20 (fun H locs hw => ?_)
  rw [← e3] at hw
  refine r_aload_n C hl (kx := 0) rfl rfl dX9_begin_23 ?_
  refine r_iconst C dX9_begin_24 ?_
  obtain ⟨μ4, e5, hf⟩ := nm_some hf
  refine pf_9_29 C hw t0 dX9_begin_25 (fun H locs hw => ?_)
  rw [← e5] at hw
  refine r_iconst C dX9_begin_28 ?_
  refine r_istore_n C hl (by decide) (L' := [(3, 0, 0), (0, 2, x0)]) rfl rfl dX9_begin_29 (fun ls hl => ?_)
  refine r_iconst C dX9_begin_30 ?_
  refine r_istore C hl (by decide) (L' := [(4, 0, 0), (3, 0, 0), (0, 2, x0)]) rfl dX9_begin_31 (fun ls hl => ?_)
  exact w_X9_begin_33 C FU _ _ _ _ _ _ _ hf t0 hw (lvh_sub hl [2, 1, 0] rfl)
set_option maxHeartbeats 4000000 in
set_option maxRecDepth 20000 in
theorem w_X9_begin_0 (C : Cx p s m args meth c D b cX9_begin 6 RX9 (none)) {r : Int} {μ' : Mem} {x0 x1 x2 : Int} {μ : Mem} {H : Heap} {locs : List Loc} {ls : Array Slot} (hf : f_X9_begin x0 x1 x2 μ = some (r, μ')) (t0 : isK x0 9) (hw : Hw D b μ s.heap H locs) (hl : lvh b ls 6 [(0, 2, x0), (1, 2, x1), (2, 0, x2)]) : W p l e (rm 9) s m args below meth c H locs 0 0 (QM below args s D b none μ') (F0 m 0 ls []) := by
  unfold f_X9_begin at hf
  refine r_aload_n C hl (kx := 0) rfl rfl dX9_begin_0 ?_
  refine r_aload_n C hl (kx := 1) rfl rfl dX9_begin_1 ?_
  obtain ⟨μ1, e2, hf⟩ := nm_some hf
  refine pf_9_15 C hw t0 dX9_begin_2 (fun H locs hw => ?_)
  rw [← e2] at hw
  refine r_aload_n C hl (kx := 0) rfl rfl dX9_begin_5 ?_
  refine r_aload_n C hl (kx := 1) rfl rfl dX9_begin_6 ?_
  refine r_ifnonnull C (tgt := 14) (by decide) dX9_begin_7 (fun c3 => ?_) (fun c3 => ?_)
  · have hf := ite_f c3 hf
    refine r_iload_n C hl (kx := 2) rfl rfl dX9_begin_14 ?_
    refine r_aload_n C hl (kx := 1) rfl rfl dX9_begin_15 ?_
    obtain ⟨g4, hf⟩ := gd_some hf
    refine r_alen2 C hw (n := 900) g4 (by decide) (z := 900) rfl dX9_begin_16 ?_
    obtain ⟨r6, μ5, e7, hf⟩ := bn_some hf
    refine r_callSv C hw (K := [(0, x2), (0, 900)]) (c_J9_min_7cf53 l D b e7) mi_J9_min_7cf53 st_J9_min_7cf53 kl_9_19 rfl rfl (lvh_sz hl) (by decide) (Kr := [(2, x0)]) rfl (Nat.le_of_ble_eq_true rfl) dX9_begin_17 (fun H locs hw => ?_)
    exact w_X9_begin_20 C hf t0 hw (lvh_sub hl [0] rfl)
  · have hf := ite_t c3 hf
    refine r_iconst C dX9_begin_10 ?_
    refine r_goto C (tgt := 20) (by decide) dX9_begin_11 ?_
    exact w_X9_begin_20 C hf t0 hw (lvh_sub hl [0] rfl)
theorem c_X9_begin (l : Launch) (D : Ds) (b : Nat) {x0 x1 x2 : Int} {μ μ' : Mem} {r : Int} (t0 : isK x0 9) (hf : f_X9_begin x0 x1 x2 μ = some (r, μ')) : Ctr l D b yX9_begin cX9_begin 6 (none) 9 [(2, x0), (2, x1), (0, x2)] μ none μ' := by
  refine Ctr.of (by decide +kernel) (Nat.le_of_ble_eq_true rfl) ?_
  intro p e s m below meth c C hw ls hl
  exact w_X9_begin_0 C hf t0 hw hl
set_option maxHeartbeats 4000000 in
set_option maxRecDepth 20000 in
theorem w_X7_refuse_17 (C : Cx p s m args meth c D b cX7_refuse 2 RX7 (some .boolean)) {r : Int} {μ' : Mem} {x0 s0 s1 : Int} {μ : Mem} {H : Heap} {locs : List Loc} {ls : Array Slot} (hf : f_X7_refuse_j17 x0 s0 s1 μ = some (r, μ')) (t0 : isK x0 7) (hw : Hw D b μ s.heap H locs) (hl : lvh b ls 2 [(0, 2, x0)]) : W p l e (rm 0) s m args below meth c H locs 0 0 (QM below args s D b (some (.int (jI r))) μ') (F0 m 17 ls [.int (jI s1), rfv b s0]) := by
  unfold f_X7_refuse_j17 at hf
  obtain ⟨g1, hf⟩ := gd_some hf
  obtain ⟨μ2, e3, hf⟩ := nm_some hf
  refine pf_7_18 C hw g1 dX7_refuse_17 (fun H locs hw => ?_)
  rw [← e3] at hw
  refine r_aload_n C hl (kx := 0) rfl rfl dX7_refuse_20 ?_
  refine r_aload_n C hl (kx := 0) rfl rfl dX7_refuse_21 ?_
  refine gf_7_12 C hw t0 dX7_refuse_22 ?_
  refine gf_7_48 C hw (ow_7_0 t0) dX7_refuse_25 ?_
  obtain ⟨μ4, e5, hf⟩ := nm_some hf
  refine pf_7_22 C hw t0 dX7_refuse_28 (fun H locs hw => ?_)
  rw [← e5] at hw
  refine r_iconst C dX7_refuse_31 ?_
  exact r_zret C hw (by decide) hf dX7_refuse_32
set_option maxHeartbeats 4000000 in
set_option maxRecDepth 20000 in
theorem w_X7_refuse_0 (C : Cx p s m args meth c D b cX7_refuse 2 RX7 (some .boolean)) {r : Int} {μ' : Mem} {x0 x1 : Int} {μ : Mem} {H : Heap} {locs : List Loc} {ls : Array Slot} (hf : f_X7_refuse x0 x1 μ = some (r, μ')) (t0 : isK x0 7) (hw : Hw D b μ s.heap H locs) (hl : lvh b ls 2 [(0, 2, x0), (1, 0, x1)]) : W p l e (rm 0) s m args below meth c H locs 0 0 (QM below args s D b (some (.int (jI r))) μ') (F0 m 0 ls []) := by
  unfold f_X7_refuse at hf
  refine r_aload_n C hl (kx := 0) rfl rfl dX7_refuse_0 ?_
  refine r_aload_n C hl (kx := 0) rfl rfl dX7_refuse_1 ?_
  refine gf_7_12 C hw t0 dX7_refuse_2 ?_
  refine gf_7_42 C hw (ow_7_0 t0) dX7_refuse_5 ?_
  refine r_iconst C dX7_refuse_8 ?_
  refine r_icmp_ne C (tgt := 16) (by decide) dX7_refuse_9 (fun c1 => ?_) (fun c1 => ?_)
  · have hf := ite_f c1 hf
    refine r_iload_n C hl (kx := 1) rfl rfl dX7_refuse_16 ?_
    exact w_X7_refuse_17 C hf t0 hw (lvh_sub hl [0] rfl)
  · have hf := ite_t c1 hf
    refine r_iconst C dX7_refuse_12 ?_
    refine r_goto C (tgt := 17) (by decide) dX7_refuse_13 ?_
    exact w_X7_refuse_17 C hf t0 hw (lvh_sub hl [0] rfl)
theorem c_X7_refuse (l : Launch) (D : Ds) (b : Nat) {x0 x1 : Int} {μ μ' : Mem} {r : Int} (t0 : isK x0 7) (hf : f_X7_refuse x0 x1 μ = some (r, μ')) : Ctr l D b yX7_refuse cX7_refuse 2 (some .boolean) 0 [(2, x0), (0, x1)] μ (some (.int (jI r))) μ' := by
  refine Ctr.of (by decide +kernel) (Nat.le_of_ble_eq_true rfl) ?_
  intro p e s m below meth c C hw ls hl
  exact w_X7_refuse_0 C hf t0 hw hl
set_option maxHeartbeats 4000000 in
set_option maxRecDepth 20000 in
theorem w_X7_take_0 (C : Cx p s m args meth c D b cX7_take 2 RX7 (some .boolean)) {r : Int} {μ' : Mem} {x0 x1 : Int} {μ : Mem} {H : Heap} {locs : List Loc} {ls : Array Slot} (hf : f_X7_take x0 x1 μ = some (r, μ')) (t0 : isK x0 7) (hw : Hw D b μ s.heap H locs) (hl : lvh b ls 2 [(0, 2, x0), (1, 0, x1)]) : W p l e (rm 1) s m args below meth c H locs 0 0 (QM below args s D b (some (.int (jI r))) μ') (F0 m 0 ls []) := by
  unfold f_X7_take at hf
  refine r_aload_n C hl (kx := 0) rfl rfl dX7_take_0 ?_
  refine gf_7_12 C hw t0 dX7_take_1 ?_
  refine gf_7_42 C hw (ow_7_0 t0) dX7_take_4 ?_
  refine r_iload_n C hl (kx := 1) rfl rfl dX7_take_7 ?_
  refine r_icmp_eq C (tgt := 17) (by decide) dX7_take_8 (fun c1 => ?_) (fun c1 => ?_)
  · have hf := ite_t c1 hf
    refine r_aload_n C hl (kx := 0) rfl rfl dX7_take_17 ?_
    refine gf_7_12 C hw t0 dX7_take_18 ?_
    obtain ⟨r3, μ2, e4, hf⟩ := bn_some hf
    refine r_callVn C hw (K := []) ok9 (ow_7_0 t0) (c_X9_advance l D b (ow_7_0 t0) e4) mi_X9_advance in_X9_advance se_X9_advance kl_7_55 rfl rfl (lvh_sz hl) (by decide) (Kr := []) rfl (Nat.le_of_ble_eq_true rfl) dX7_take_21 (fun H locs hw => ?_)
    refine r_iconst C dX7_take_24 ?_
    exact r_zret C hw (by decide) hf dX7_take_25
  · have hf := ite_f c1 hf
    refine r_aload_n C hl (kx := 0) rfl rfl dX7_take_11 ?_
    refine r_iconst C dX7_take_12 ?_
    obtain ⟨r6, μ5, e7, hf⟩ := bn_some hf
    refine r_callVv C hw (K := [(0, 2)]) ok7 t0 (c_X7_refuse l D b t0 e7) mi_X7_refuse in_X7_refuse se_X7_refuse kl_7_51 rfl rfl (lvh_sz hl) (by decide) (Kr := []) rfl (Nat.le_of_ble_eq_true rfl) dX7_take_13 (fun H locs hw => ?_)
    obtain ⟨g8, hf⟩ := gd_some hf
    exact r_zret C hw g8 hf dX7_take_16
theorem c_X7_take (l : Launch) (D : Ds) (b : Nat) {x0 x1 : Int} {μ μ' : Mem} {r : Int} (t0 : isK x0 7) (hf : f_X7_take x0 x1 μ = some (r, μ')) : Ctr l D b yX7_take cX7_take 2 (some .boolean) 1 [(2, x0), (0, x1)] μ (some (.int (jI r))) μ' := by
  refine Ctr.of (by decide +kernel) (Nat.le_of_ble_eq_true rfl) ?_
  intro p e s m below meth c C hw ls hl
  exact w_X7_take_0 C hf t0 hw hl
set_option maxHeartbeats 4000000 in
set_option maxRecDepth 20000 in
theorem w_X7_takeNumber_50 (C : Cx p s m args meth c D b cX7_takeNumber 4 RX7 (some .boolean)) {r : Int} {μ' : Mem} {x0 : Int} {μ : Mem} {H : Heap} {locs : List Loc} {ls : Array Slot} (hf : f_X7_takeNumber_j50 x0 μ = some (r, μ')) (t0 : isK x0 7) (hw : Hw D b μ s.heap H locs) (hl : lvh b ls 4 [(0, 2, x0)]) : W p l e (rm 1) s m args below meth c H locs 0 0 (QM below args s D b (some (.int (jI r))) μ') (F0 m 50 ls []) := by
  unfold f_X7_takeNumber_j50 at hf
  refine r_aload_n C hl (kx := 0) rfl rfl dX7_takeNumber_50 ?_
  refine r_iconst C dX7_takeNumber_51 ?_
  obtain ⟨r2, μ1, e3, hf⟩ := bn_some hf
  refine r_callVv C hw (K := [(0, 3)]) ok7 t0 (c_X7_refuse l D b t0 e3) mi_X7_refuse in_X7_refuse se_X7_refuse kl_7_51 rfl rfl (lvh_sz hl) (by decide) (Kr := []) rfl (Nat.le_of_ble_eq_true rfl) dX7_takeNumber_52 (fun H locs hw => ?_)
  obtain ⟨g4, hf⟩ := gd_some hf
  exact r_zret C hw g4 hf dX7_takeNumber_55
set_option maxHeartbeats 4000000 in
set_option maxRecDepth 20000 in
theorem w_X7_takeNumber_0 (C : Cx p s m args meth c D b cX7_takeNumber 4 RX7 (some .boolean)) {r : Int} {μ' : Mem} {x0 x1 x2 x3 : Int} {μ : Mem} {H : Heap} {locs : List Loc} {ls : Array Slot} (hf : f_X7_takeNumber x0 x1 x2 x3 μ = some (r, μ')) (t0 : isK x0 7) (hw : Hw D b μ s.heap H locs) (hl : lvh b ls 4 [(0, 2, x0), (1, 0, x1), (2, 0, x2), (3, 0, x3)]) : W p l e (rm 1) s m args below meth c H locs 0 0 (QM below args s D b (some (.int (jI r))) μ') (F0 m 0 ls []) := by
  unfold f_X7_takeNumber at hf
  refine r_aload_n C hl (kx := 0) rfl rfl dX7_takeNumber_0 ?_
  refine gf_7_12 C hw t0 dX7_takeNumber_1 ?_
  refine gf_7_42 C hw (ow_7_0 t0) dX7_takeNumber_4 ?_
  refine r_iconst C dX7_takeNumber_7 ?_
  refine r_icmp_eq C (tgt := 17) (by decide) dX7_takeNumber_8 (fun c1 => ?_) (fun c1 => ?_)
  · have hf := ite_t c1 hf
    refine r_aload_n C hl (kx := 0) rfl rfl dX7_takeNumber_17 ?_
    refine gf_7_12 C hw t0 dX7_takeNumber_18 ?_
    refine gf_7_58 C hw (ow_7_0 t0) dX7_takeNumber_21 ?_
    refine r_iload_n C hl (kx := 1) rfl rfl dX7_takeNumber_24 ?_
    refine r_icmp_lt C (tgt := 50) (by decide) dX7_takeNumber_25 (fun c2 => ?_) (fun c2 => ?_)
    · have hf := ite_t c2 hf
      exact w_X7_takeNumber_50 C hf t0 hw (lvh_sub hl [0] rfl)
    · have hf := ite_f c2 hf
      refine r_aload_n C hl (kx := 0) rfl rfl dX7_takeNumber_28 ?_
      refine gf_7_12 C hw t0 dX7_takeNumber_29 ?_
      refine gf_7_58 C hw (ow_7_0 t0) dX7_takeNumber_32 ?_
      refine r_iload_n C hl (kx := 2) rfl rfl dX7_takeNumber_35 ?_
      refine r_icmp_gt C (tgt := 50) (by decide) dX7_takeNumber_36 (fun c3 => ?_) (fun c3 => ?_)
      · have hf := ite_t c3 hf
        exact w_X7_takeNumber_50 C hf t0 hw (lvh_sub hl [0] rfl)
      · have hf := ite_f c3 hf
        refine r_aload_n C hl (kx := 0) rfl rfl dX7_takeNumber_39 ?_
        refine gf_7_12 C hw t0 dX7_takeNumber_40 ?_
        refine gf_7_58 C hw (ow_7_0 t0) dX7_takeNumber_43 ?_
        refine r_iload_n C hl (kx := 3) rfl rfl dX7_takeNumber_46 ?_
        refine r_icmp_ne C (tgt := 56) (by decide) dX7_takeNumber_47 (fun c4 => ?_) (fun c4 => ?_)
        · have hf := ite_f c4 hf
          refine r_aload_n C hl (kx := 0) rfl rfl dX7_takeNumber_56 ?_
          refine r_aload_n C hl (kx := 0) rfl rfl dX7_takeNumber_57 ?_
          refine gf_7_12 C hw t0 dX7_takeNumber_58 ?_
          refine gf_7_58 C hw (ow_7_0 t0) dX7_takeNumber_61 ?_
          obtain ⟨μ5, e6, hf⟩ := nm_some hf
          refine pf_7_61 C hw t0 dX7_takeNumber_64 (fun H locs hw => ?_)
          rw [← e6] at hw
          refine r_aload_n C hl (kx := 0) rfl rfl dX7_takeNumber_67 ?_
          refine gf_7_12 C hw t0 dX7_takeNumber_68 ?_
          obtain ⟨r8, μ7, e9, hf⟩ := bn_some hf
          refine r_callVn C hw (K := []) ok9 (ow_7_0 t0) (c_X9_advance l D b (ow_7_0 t0) e9) mi_X9_advance in_X9_advance se_X9_advance kl_7_55 rfl rfl (lvh_sz hl) (by decide) (Kr := []) rfl (Nat.le_of_ble_eq_true rfl) dX7_takeNumber_71 (fun H locs hw => ?_)
          refine r_iconst C dX7_takeNumber_74 ?_
          exact r_zret C hw (by decide) hf dX7_takeNumber_75
        · have hf := ite_t c4 hf
          exact w_X7_takeNumber_50 C hf t0 hw (lvh_sub hl [0] rfl)
  · have hf := ite_f c1 hf
    refine r_aload_n C hl (kx := 0) rfl rfl dX7_takeNumber_11 ?_
    refine r_iconst C dX7_takeNumber_12 ?_
    obtain ⟨r11, μ10, e12, hf⟩ := bn_some hf
    refine r_callVv C hw (K := [(0, 2)]) ok7 t0 (c_X7_refuse l D b t0 e12) mi_X7_refuse in_X7_refuse se_X7_refuse kl_7_51 rfl rfl (lvh_sz hl) (by decide) (Kr := []) rfl (Nat.le_of_ble_eq_true rfl) dX7_takeNumber_13 (fun H locs hw => ?_)
    obtain ⟨g13, hf⟩ := gd_some hf
    exact r_zret C hw g13 hf dX7_takeNumber_16
theorem c_X7_takeNumber (l : Launch) (D : Ds) (b : Nat) {x0 x1 x2 x3 : Int} {μ μ' : Mem} {r : Int} (t0 : isK x0 7) (hf : f_X7_takeNumber x0 x1 x2 x3 μ = some (r, μ')) : Ctr l D b yX7_takeNumber cX7_takeNumber 4 (some .boolean) 1 [(2, x0), (0, x1), (0, x2), (0, x3)] μ (some (.int (jI r))) μ' := by
  refine Ctr.of (by decide +kernel) (Nat.le_of_ble_eq_true rfl) ?_
  intro p e s m below meth c C hw ls hl
  exact w_X7_takeNumber_0 C hf t0 hw hl
set_option maxHeartbeats 4000000 in
set_option maxRecDepth 20000 in
theorem w_X7_takeLineEnd_0 (C : Cx p s m args meth c D b cX7_takeLineEnd 1 RX7 (some .boolean)) {r : Int} {μ' : Mem} {x0 : Int} {μ : Mem} {H : Heap} {locs : List Loc} {ls : Array Slot} (hf : f_X7_takeLineEnd x0 μ = some (r, μ')) (t0 : isK x0 7) (hw : Hw D b μ s.heap H locs) (hl : lvh b ls 1 [(0, 2, x0)]) : W p l e (rm 2) s m args below meth c H locs 0 0 (QM below args s D b (some (.int (jI r))) μ') (F0 m 0 ls []) := by
  unfold f_X7_takeLineEnd at hf
  refine r_aload_n C hl (kx := 0) rfl rfl dX7_takeLineEnd_0 ?_
  refine r_bipush C (by decide) dX7_takeLineEnd_1 ?_
  obtain ⟨r2, μ1, e3, hf⟩ := bn_some hf
  refine r_callVv C hw (K := [(0, 59)]) ok7 t0 (c_X7_take l D b t0 e3) mi_X7_take in_X7_take se_X7_take kl_7_64 rfl rfl (lvh_sz hl) (by decide) (Kr := []) rfl (Nat.le_of_ble_eq_true rfl) dX7_takeLineEnd_3 (fun H locs hw => ?_)
  refine r_if_ne C (tgt := 11) (by decide) dX7_takeLineEnd_6 (fun c4 => ?_) (fun c4 => ?_)
  · have hf := ite_f c4 hf
    refine r_aload_n C hl (kx := 0) rfl rfl dX7_takeLineEnd_11 ?_
    refine gf_7_25 C hw t0 dX7_takeLineEnd_12 ?_
    refine r_dup C (rfv_cat _ _) dX7_takeLineEnd_15 ?_
    obtain ⟨g5, hf⟩ := gd_some hf
    refine gf_7_67 C hw g5 dX7_takeLineEnd_16 ?_
    refine r_iconst C dX7_takeLineEnd_19 ?_
    refine r_iadd C dX7_takeLineEnd_20 ?_
    obtain ⟨μ6, e7, hf⟩ := nm_some hf
    refine pf_7_67 C hw g5 dX7_takeLineEnd_21 (fun H locs hw => ?_)
    rw [← e7] at hw
    refine r_iconst C dX7_takeLineEnd_24 ?_
    exact r_zret C hw (by decide) hf dX7_takeLineEnd_25
  · have hf := ite_t c4 hf
    refine r_iconst C dX7_takeLineEnd_9 ?_
    exact r_zret C hw (by decide) hf dX7_takeLineEnd_10
theorem c_X7_takeLineEnd (l : Launch) (D : Ds) (b : Nat) {x0 : Int} {μ μ' : Mem} {r : Int} (t0 : isK x0 7) (hf : f_X7_takeLineEnd x0 μ = some (r, μ')) : Ctr l D b yX7_takeLineEnd cX7_takeLineEnd 1 (some .boolean) 2 [(2, x0)] μ (some (.int (jI r))) μ' := by
  refine Ctr.of (by decide +kernel) (Nat.le_of_ble_eq_true rfl) ?_
  intro p e s m below meth c C hw ls hl
  exact w_X7_takeLineEnd_0 C hf t0 hw hl
set_option maxHeartbeats 4000000 in
set_option maxRecDepth 20000 in
theorem w_X7_readLandLine_0 (C : Cx p s m args meth c D b cX7_readLandLine 1 RX7 (some .boolean)) {r : Int} {μ' : Mem} {x0 : Int} {μ : Mem} {H : Heap} {locs : List Loc} {ls : Array Slot} (hf : f_X7_readLandLine x0 μ = some (r, μ')) (t0 : isK x0 7) (hw : Hw D b μ s.heap H locs) (hl : lvh b ls 1 [(0, 2, x0)]) : W p l e (rm 3) s m args below meth c H locs 0 0 (QM below args s D b (some (.int (jI r))) μ') (F0 m 0 ls []) := by
  unfold f_X7_readLandLine at hf
  refine r_aload_n C hl (kx := 0) rfl rfl dX7_readLandLine_0 ?_
  refine r_sipush C (by decide) dX7_readLandLine_1 ?_
  obtain ⟨r2, μ1, e3, hf⟩ := bn_some hf
  refine r_callVv C hw (K := [(0, 128)]) ok7 t0 (c_X7_take l D b t0 e3) mi_X7_take in_X7_take se_X7_take kl_7_64 rfl rfl (lvh_sz hl) (by decide) (Kr := []) rfl (Nat.le_of_ble_eq_true rfl) dX7_readLandLine_4 (fun H locs hw => ?_)
  refine r_if_eq C (tgt := 31) (by decide) dX7_readLandLine_7 (fun c4 => ?_) (fun c4 => ?_)
  · have hf := ite_t c4 hf
    refine r_iconst C dX7_readLandLine_31 ?_
    exact r_zret C hw (by decide) hf dX7_readLandLine_32
  · have hf := ite_f c4 hf
    refine r_aload_n C hl (kx := 0) rfl rfl dX7_readLandLine_10 ?_
    refine r_sipush C (by decide) dX7_readLandLine_11 ?_
    obtain ⟨r6, μ5, e7, hf⟩ := bn_some hf
    refine r_callVv C hw (K := [(0, 129)]) ok7 t0 (c_X7_take l D b t0 e7) mi_X7_take in_X7_take se_X7_take kl_7_64 rfl rfl (lvh_sz hl) (by decide) (Kr := []) rfl (Nat.le_of_ble_eq_true rfl) dX7_readLandLine_14 (fun H locs hw => ?_)
    refine r_if_eq C (tgt := 31) (by decide) dX7_readLandLine_17 (fun c8 => ?_) (fun c8 => ?_)
    · have hf := ite_t c8 hf
      refine r_iconst C dX7_readLandLine_31 ?_
      exact r_zret C hw (by decide) hf dX7_readLandLine_32
    · have hf := ite_f c8 hf
      refine r_aload_n C hl (kx := 0) rfl rfl dX7_readLandLine_20 ?_
      refine r_iconst C dX7_readLandLine_21 ?_
      refine r_bipush C (by decide) dX7_readLandLine_22 ?_
      refine r_iconst C dX7_readLandLine_24 ?_
      obtain ⟨r10, μ9, e11, hf⟩ := bn_some hf
      refine r_callVv C hw (K := [(0, 1), (0, 7), (0, (-1))]) ok7 t0 (c_X7_takeNumber l D b t0 e11) mi_X7_takeNumber in_X7_takeNumber se_X7_takeNumber kl_7_70 rfl rfl (lvh_sz hl) (by decide) (Kr := []) rfl (Nat.le_of_ble_eq_true rfl) dX7_readLandLine_25 (fun H locs hw => ?_)
      refine r_if_ne C (tgt := 33) (by decide) dX7_readLandLine_28 (fun c12 => ?_) (fun c12 => ?_)
      · have hf := ite_f c12 hf
        refine r_aload_n C hl (kx := 0) rfl rfl dX7_readLandLine_33 ?_
        refine gf_7_25 C hw t0 dX7_readLandLine_34 ?_
        refine r_aload_n C hl (kx := 0) rfl rfl dX7_readLandLine_37 ?_
        refine gf_7_61 C hw t0 dX7_readLandLine_38 ?_
        obtain ⟨g13, hf⟩ := gd_some hf
        obtain ⟨μ14, e15, hf⟩ := nm_some hf
        refine pf_7_74 C hw g13 dX7_readLandLine_41 (fun H locs hw => ?_)
        rw [← e15] at hw
        refine r_aload_n C hl (kx := 0) rfl rfl dX7_readLandLine_44 ?_
        obtain ⟨r17, μ16, e18, hf⟩ := bn_some hf
        refine r_callVv C hw (K := []) ok7 t0 (c_X7_takeLineEnd l D b t0 e18) mi_X7_takeLineEnd in_X7_takeLineEnd se_X7_takeLineEnd kl_7_77 rfl rfl (lvh_sz hl) (by decide) (Kr := []) rfl (Nat.le_of_ble_eq_true rfl) dX7_readLandLine_45 (fun H locs hw => ?_)
        obtain ⟨g19, hf⟩ := gd_some hf
        exact r_zret C hw g19 hf dX7_readLandLine_48
      · have hf := ite_t c12 hf
        refine r_iconst C dX7_readLandLine_31 ?_
        exact r_zret C hw (by decide) hf dX7_readLandLine_32
theorem c_X7_readLandLine (l : Launch) (D : Ds) (b : Nat) {x0 : Int} {μ μ' : Mem} {r : Int} (t0 : isK x0 7) (hf : f_X7_readLandLine x0 μ = some (r, μ')) : Ctr l D b yX7_readLandLine cX7_readLandLine 1 (some .boolean) 3 [(2, x0)] μ (some (.int (jI r))) μ' := by
  refine Ctr.of (by decide +kernel) (Nat.le_of_ble_eq_true rfl) ?_
  intro p e s m below meth c C hw ls hl
  exact w_X7_readLandLine_0 C hf t0 hw hl
set_option maxHeartbeats 4000000 in
set_option maxRecDepth 20000 in
theorem w_X7_readFlag_68 (C : Cx p s m args meth c D b cX7_readFlag 4 RX7 (some .boolean)) {r : Int} {μ' : Mem} {x0 x1 x2 s0 : Int} {μ : Mem} {H : Heap} {locs : List Loc} {ls : Array Slot} (hf : f_X7_readFlag_j68 x0 x1 x2 s0 μ = some (r, μ')) (t0 : isK x0 7) (hw : Hw D b μ s.heap H locs) (hl : lvh b ls 4 [(0, 2, x0), (1, 0, x1), (2, 0, x2)]) : W p l e (rm 2) s m args below meth c H locs 0 0 (QM below args s D b (some (.int (jI r))) μ') (F0 m 68 ls [.int (jI s0)]) := by
  unfold f_X7_readFlag_j68 at hf
  refine r_istore_n C hl (by decide) (L' := [(3, 0, s0), (0, 2, x0), (1, 0, x1), (2, 0, x2)]) rfl rfl dX7_readFlag_68 (fun ls hl => ?_)
  refine r_aload_n C hl (kx := 1) rfl rfl dX7_readFlag_69 ?_
  refine r_iconst C dX7_readFlag_70 ?_
  refine r_iload_n C hl (kx := 0) rfl rfl dX7_readFlag_71 ?_
  refine r_iconst C dX7_readFlag_72 ?_
  obtain ⟨r2, μ1, e3, hf⟩ := bn_some hf
  refine r_callVv C hw (K := [(0, 0), (0, s0), (0, (-1))]) ok7 t0 (c_X7_takeNumber l D b t0 e3) mi_X7_takeNumber in_X7_takeNumber se_X7_takeNumber kl_7_70 rfl rfl (lvh_sz hl) (by decide) (Kr := []) rfl (Nat.le_of_ble_eq_true rfl) dX7_readFlag_73 (fun H locs hw => ?_)
  refine r_if_ne C (tgt := 81) (by decide) dX7_readFlag_76 (fun c4 => ?_) (fun c4 => ?_)
  · have hf := ite_f c4 hf
    refine r_iload_n C hl (kx := 3) rfl rfl dX7_readFlag_81 ?_
    refine r_sipush C (by decide) dX7_readFlag_82 ?_
    refine r_icmp_ne C (tgt := 104) (by decide) dX7_readFlag_85 (fun c5 => ?_) (fun c5 => ?_)
    · have hf := ite_f c5 hf
      refine r_iload_n C hl (kx := 3) rfl rfl dX7_readFlag_104 ?_
      refine r_sipush C (by decide) dX7_readFlag_105 ?_
      refine r_icmp_ne C (tgt := 127) (by decide) dX7_readFlag_108 (fun c6 => ?_) (fun c6 => ?_)
      · have hf := ite_f c6 hf
        refine r_aload_n C hl (kx := 1) rfl rfl dX7_readFlag_127 ?_
        refine gf_7_25 C hw t0 dX7_readFlag_128 ?_
        obtain ⟨g7, hf⟩ := gd_some hf
        refine gf_7_117 C hw g7 dX7_readFlag_131 ?_
        refine r_iload_n C hl (kx := 2) rfl rfl dX7_readFlag_134 ?_
        refine r_aload_n C hl (kx := 1) rfl rfl dX7_readFlag_135 ?_
        refine gf_7_61 C hw t0 dX7_readFlag_136 ?_
        obtain ⟨g10, hf⟩ := gd_some hf
        obtain ⟨μ8, e9, hf⟩ := nm_some hf
        refine r_iast C hw (n := 9) (ow_3_12 g7) (j := (nrm x1)) rfl g10 (by decide) dX7_readFlag_139 (fun H locs hw => ?_)
        rw [← e9] at hw
        refine r_iconst C dX7_readFlag_140 ?_
        exact r_zret C hw (by decide) hf dX7_readFlag_141
      · have hf := ite_t c6 hf
        refine r_aload_n C hl (kx := 1) rfl rfl dX7_readFlag_111 ?_
        refine gf_7_25 C hw t0 dX7_readFlag_112 ?_
        obtain ⟨g11, hf⟩ := gd_some hf
        refine gf_7_114 C hw g11 dX7_readFlag_115 ?_
        refine r_iload_n C hl (kx := 2) rfl rfl dX7_readFlag_118 ?_
        refine r_aload_n C hl (kx := 1) rfl rfl dX7_readFlag_119 ?_
        refine gf_7_61 C hw t0 dX7_readFlag_120 ?_
        obtain ⟨g14, hf⟩ := gd_some hf
        obtain ⟨μ12, e13, hf⟩ := nm_some hf
        refine r_iast C hw (n := 9) (ow_3_11 g11) (j := (nrm x1)) rfl g14 (by decide) dX7_readFlag_123 (fun H locs hw => ?_)
        rw [← e13] at hw
        refine r_goto C (tgt := 140) (by decide) dX7_readFlag_124 ?_
        refine r_iconst C dX7_readFlag_140 ?_
        exact r_zret C hw (by decide) hf dX7_readFlag_141
    · have hf := ite_t c5 hf
      refine r_aload_n C hl (kx := 1) rfl rfl dX7_readFlag_88 ?_
      refine gf_7_25 C hw t0 dX7_readFlag_89 ?_
      obtain ⟨g15, hf⟩ := gd_some hf
      refine gf_7_111 C hw g15 dX7_readFlag_92 ?_
      refine r_iload_n C hl (kx := 2) rfl rfl dX7_readFlag_95 ?_
      refine r_aload_n C hl (kx := 1) rfl rfl dX7_readFlag_96 ?_
      refine gf_7_61 C hw t0 dX7_readFlag_97 ?_
      obtain ⟨g18, hf⟩ := gd_some hf
      obtain ⟨μ16, e17, hf⟩ := nm_some hf
      refine r_iast C hw (n := 9) (ow_3_10 g15) (j := (nrm x1)) rfl g18 (by decide) dX7_readFlag_100 (fun H locs hw => ?_)
      rw [← e17] at hw
      refine r_goto C (tgt := 140) (by decide) dX7_readFlag_101 ?_
      refine r_iconst C dX7_readFlag_140 ?_
      exact r_zret C hw (by decide) hf dX7_readFlag_141
  · have hf := ite_t c4 hf
    refine r_iconst C dX7_readFlag_79 ?_
    exact r_zret C hw (by decide) hf dX7_readFlag_80
set_option maxHeartbeats 4000000 in
set_option maxRecDepth 20000 in
theorem w_X7_readFlag_35 (C : Cx p s m args meth c D b cX7_readFlag 4 RX7 (some .boolean)) {r : Int} {μ' : Mem} {x0 x1 x2 : Int} {μ : Mem} {H : Heap} {locs : List Loc} {ls : Array Slot} (hf : f_X7_readFlag_j35 x0 x1 x2 μ = some (r, μ')) (t0 : isK x0 7) (hw : Hw D b μ s.heap H locs) (hl : lvh b ls 4 [(0, 2, x0), (1, 0, x1), (2, 0, x2)]) : W p l e (rm 2) s m args below meth c H locs 0 0 (QM below args s D b (some (.int (jI r))) μ') (F0 m 35 ls []) := by
  unfold f_X7_readFlag_j35 at hf
  refine r_aload_n C hl (kx := 0) rfl rfl dX7_readFlag_35 ?_
  refine gf_7_12 C hw t0 dX7_readFlag_36 ?_
  obtain ⟨r2, μ1, e3, hf⟩ := bn_some hf
  refine r_callVn C hw (K := []) ok9 (ow_7_0 t0) (c_X9_advance l D b (ow_7_0 t0) e3) mi_X9_advance in_X9_advance se_X9_advance kl_7_55 rfl rfl (lvh_sz hl) (by decide) (Kr := []) rfl (Nat.le_of_ble_eq_true rfl) dX7_readFlag_39 (fun H locs hw => ?_)
  refine r_iload_n C hl (kx := 2) rfl rfl dX7_readFlag_42 ?_
  refine r_sipush C (by decide) dX7_readFlag_43 ?_
  refine r_icmp_ne C (tgt := 54) (by decide) dX7_readFlag_46 (fun c4 => ?_) (fun c4 => ?_)
  · have hf := ite_f c4 hf
    refine r_iload_n C hl (kx := 2) rfl rfl dX7_readFlag_54 ?_
    refine r_sipush C (by decide) dX7_readFlag_55 ?_
    refine r_icmp_ne C (tgt := 66) (by decide) dX7_readFlag_58 (fun c5 => ?_) (fun c5 => ?_)
    · have hf := ite_f c5 hf
      refine r_bipush C (by decide) dX7_readFlag_66 ?_
      exact w_X7_readFlag_68 C hf t0 hw (lvh_sub hl [0, 1, 2] rfl)
    · have hf := ite_t c5 hf
      refine r_bipush C (by decide) dX7_readFlag_61 ?_
      refine r_goto C (tgt := 68) (by decide) dX7_readFlag_63 ?_
      exact w_X7_readFlag_68 C hf t0 hw (lvh_sub hl [0, 1, 2] rfl)
  · have hf := ite_t c4 hf
    refine r_bipush C (by decide) dX7_readFlag_49 ?_
    refine r_goto C (tgt := 68) (by decide) dX7_readFlag_51 ?_
    exact w_X7_readFlag_68 C hf t0 hw (lvh_sub hl [0, 1, 2] rfl)
set_option maxHeartbeats 4000000 in
set_option maxRecDepth 20000 in
theorem w_X7_readFlag_0 (C : Cx p s m args meth c D b cX7_readFlag 4 RX7 (some .boolean)) {r : Int} {μ' : Mem} {x0 x1 : Int} {μ : Mem} {H : Heap} {locs : List Loc} {ls : Array Slot} (hf : f_X7_readFlag x0 x1 μ = some (r, μ')) (t0 : isK x0 7) (hw : Hw D b μ s.heap H locs) (hl : lvh b ls 4 [(0, 2, x0), (1, 0, x1)]) : W p l e (rm 2) s m args below meth c H locs 0 0 (QM below args s D b (some (.int (jI r))) μ') (F0 m 0 ls []) := by
  unfold f_X7_readFlag at hf
  refine r_aload_n C hl (kx := 0) rfl rfl dX7_readFlag_0 ?_
  refine gf_7_12 C hw t0 dX7_readFlag_1 ?_
  refine gf_7_42 C hw (ow_7_0 t0) dX7_readFlag_4 ?_
  obtain ⟨v1, e2, hf⟩ := nm_some hf
  refine top_i e2 ?_
  refine r_istore_n C hl (by decide) (L' := [(2, 0, v1), (0, 2, x0), (1, 0, x1)]) rfl rfl dX7_readFlag_7 (fun ls hl => ?_)
  refine r_iload_n C hl (kx := 0) rfl rfl dX7_readFlag_8 ?_
  refine r_sipush C (by decide) dX7_readFlag_9 ?_
  refine r_icmp_eq C (tgt := 35) (by decide) dX7_readFlag_12 (fun c3 => ?_) (fun c3 => ?_)
  · have hf := ite_t c3 hf
    exact w_X7_readFlag_35 C hf t0 hw (lvh_sub hl [1, 2, 0] rfl)
  · have hf := ite_f c3 hf
    refine r_iload_n C hl (kx := 0) rfl rfl dX7_readFlag_15 ?_
    refine r_sipush C (by decide) dX7_readFlag_16 ?_
    refine r_icmp_eq C (tgt := 35) (by decide) dX7_readFlag_19 (fun c4 => ?_) (fun c4 => ?_)
    · have hf := ite_t c4 hf
      exact w_X7_readFlag_35 C hf t0 hw (lvh_sub hl [1, 2, 0] rfl)
    · have hf := ite_f c4 hf
      refine r_iload_n C hl (kx := 0) rfl rfl dX7_readFlag_22 ?_
      refine r_sipush C (by decide) dX7_readFlag_23 ?_
      refine r_icmp_eq C (tgt := 35) (by decide) dX7_readFlag_26 (fun c5 => ?_) (fun c5 => ?_)
      · have hf := ite_t c5 hf
        exact w_X7_readFlag_35 C hf t0 hw (lvh_sub hl [1, 2, 0] rfl)
      · have hf := ite_f c5 hf
        refine r_aload_n C hl (kx := 1) rfl rfl dX7_readFlag_29 ?_
        refine r_iconst C dX7_readFlag_30 ?_
        obtain ⟨r7, μ6, e8, hf⟩ := bn_some hf
        refine r_callVv C hw (K := [(0, 2)]) ok7 t0 (c_X7_refuse l D b t0 e8) mi_X7_refuse in_X7_refuse se_X7_refuse kl_7_51 rfl rfl (lvh_sz hl) (by decide) (Kr := []) rfl (Nat.le_of_ble_eq_true rfl) dX7_readFlag_31 (fun H locs hw => ?_)
        obtain ⟨g9, hf⟩ := gd_some hf
        exact r_zret C hw g9 hf dX7_readFlag_34
theorem c_X7_readFlag (l : Launch) (D : Ds) (b : Nat) {x0 x1 : Int} {μ μ' : Mem} {r : Int} (t0 : isK x0 7) (hf : f_X7_readFlag x0 x1 μ = some (r, μ')) : Ctr l D b yX7_readFlag cX7_readFlag 4 (some .boolean) 2 [(2, x0), (0, x1)] μ (some (.int (jI r))) μ' := by
  refine Ctr.of (by decide +kernel) (Nat.le_of_ble_eq_true rfl) ?_
  intro p e s m below meth c C hw ls hl
  exact w_X7_readFlag_0 C hf t0 hw hl
set_option maxHeartbeats 4000000 in
set_option maxRecDepth 20000 in
theorem w_X7_readLane_18 (C : Cx p s m args meth c D b cX7_readLane 3 RX7 (some .boolean)) {r : Int} {μ' : Mem} {x0 : Int} {μ : Mem} {H : Heap} {locs : List Loc} {ls : Array Slot} (hf : f_X7_readLane_j18 x0 μ = some (r, μ')) (t0 : isK x0 7) (hw : Hw D b μ s.heap H locs) (hl : lvh b ls 3 [(0, 2, x0)]) : W p l e (rm 3) s m args below meth c H locs 0 0 (QM below args s D b (some (.int (jI r))) μ') (F0 m 18 ls []) := by
  unfold f_X7_readLane_j18 at hf
  refine r_aload_n C hl (kx := 0) rfl rfl dX7_readLane_18 ?_
  refine r_iconst C dX7_readLane_19 ?_
  obtain ⟨r2, μ1, e3, hf⟩ := bn_some hf
  refine r_callVv C hw (K := [(0, 4)]) ok7 t0 (c_X7_refuse l D b t0 e3) mi_X7_refuse in_X7_refuse se_X7_refuse kl_7_51 rfl rfl (lvh_sz hl) (by decide) (Kr := []) rfl (Nat.le_of_ble_eq_true rfl) dX7_readLane_20 (fun H locs hw => ?_)
  obtain ⟨g4, hf⟩ := gd_some hf
  exact r_zret C hw g4 hf dX7_readLane_23
set_option maxHeartbeats 4000000 in
set_option maxRecDepth 20000 in
theorem w_X7_readLane_137 (C : Cx p s m args meth c D b cX7_readLane 3 RX7 (some .boolean)) {r : Int} {μ' : Mem} {x0 : Int} {μ : Mem} {H : Heap} {locs : List Loc} {ls : Array Slot} (hf : f_X7_readLane_j137 x0 μ = some (r, μ')) (t0 : isK x0 7) (hw : Hw D b μ s.heap H locs) (hl : lvh b ls 3 [(0, 2, x0)]) : W p l e (rm 3) s m args below meth c H locs 0 0 (QM below args s D b (some (.int (jI r))) μ') (F0 m 137 ls []) := by
  unfold f_X7_readLane_j137 at hf
  refine r_aload_n C hl (kx := 0) rfl rfl dX7_readLane_137 ?_
  refine gf_7_25 C hw t0 dX7_readLane_138 ?_
  refine r_dup C (rfv_cat _ _) dX7_readLane_141 ?_
  obtain ⟨g1, hf⟩ := gd_some hf
  refine gf_7_98 C hw g1 dX7_readLane_142 ?_
  refine r_iconst C dX7_readLane_145 ?_
  refine r_iadd C dX7_readLane_146 ?_
  obtain ⟨μ2, e3, hf⟩ := nm_some hf
  refine pf_7_98 C hw g1 dX7_readLane_147 (fun H locs hw => ?_)
  rw [← e3] at hw
  refine r_aload_n C hl (kx := 0) rfl rfl dX7_readLane_150 ?_
  obtain ⟨r5, μ4, e6, hf⟩ := bn_some hf
  refine r_callVv C hw (K := []) ok7 t0 (c_X7_takeLineEnd l D b t0 e6) mi_X7_takeLineEnd in_X7_takeLineEnd se_X7_takeLineEnd kl_7_77 rfl rfl (lvh_sz hl) (by decide) (Kr := []) rfl (Nat.le_of_ble_eq_true rfl) dX7_readLane_151 (fun H locs hw => ?_)
  obtain ⟨g7, hf⟩ := gd_some hf
  exact r_zret C hw g7 hf dX7_readLane_154
set_option maxHeartbeats 4000000 in
set_option maxRecDepth 20000 in
theorem w_X7_readLane_102 (C : Cx p s m args meth c D b cX7_readLane 3 RX7 (some .boolean)) {r : Int} {μ' : Mem} : ∀ (n : Nat) (x0 x1 x2 : Int) (μ : Mem) (H : Heap) (locs : List Loc) (ls : Array Slot), f_X7_readLane_w102 n x0 x1 x2 μ = some (r, μ') → isK x0 7 → Hw D b μ s.heap H locs → lvh b ls 3 [(0, 2, x0), (1, 0, x1), (2, 0, x2)] → W p l e (rm 3) s m args below meth c H locs 0 0 (QM below args s D b (some (.int (jI r))) μ') (F0 m 102 ls []) := by
  intro n
  induction n with
  | zero => intro x0 x1 x2 μ H locs ls hf; cases hf
  | succ n ih =>
    intro x0 x1 x2 μ H locs ls hf t0 hw hl
    rw [f_X7_readLane_w102.eq_2] at hf
    refine r_iload_n C hl (kx := 2) rfl rfl dX7_readLane_102 ?_
    refine r_sipush C (by decide) dX7_readLane_103 ?_
    refine r_icmp_ge C (tgt := 137) (by decide) dX7_readLane_106 (fun c1 => ?_) (fun c1 => ?_)
    · have hf := ite_t c1 hf
      exact w_X7_readLane_137 C hf t0 hw (lvh_sub hl [0] rfl)
    · have hf := ite_f c1 hf
      refine r_aload_n C hl (kx := 0) rfl rfl dX7_readLane_109 ?_
      refine gf_7_12 C hw t0 dX7_readLane_110 ?_
      refine gf_7_42 C hw (ow_7_0 t0) dX7_readLane_113 ?_
      refine r_bipush C (by decide) dX7_readLane_116 ?_
      refine r_icmp_eq C (tgt := 137) (by decide) dX7_readLane_118 (fun c2 => ?_) (fun c2 => ?_)
      · have hf := ite_t c2 hf
        exact w_X7_readLane_137 C hf t0 hw (lvh_sub hl [0] rfl)
      · have hf := ite_f c2 hf
        refine r_aload_n C hl (kx := 0) rfl rfl dX7_readLane_121 ?_
        refine r_iload_n C hl (kx := 1) rfl rfl dX7_readLane_122 ?_
        obtain ⟨r4, μ3, e5, hf⟩ := bn_some hf
        refine r_callVv C hw (K := [(0, x1)]) ok7 t0 (c_X7_readFlag l D b t0 e5) mi_X7_readFlag in_X7_readFlag se_X7_readFlag kl_7_108 rfl rfl (lvh_sz hl) (by decide) (Kr := []) rfl (Nat.le_of_ble_eq_true rfl) dX7_readLane_123 (fun H locs hw => ?_)
        refine r_if_ne C (tgt := 131) (by decide) dX7_readLane_126 (fun c6 => ?_) (fun c6 => ?_)
        · have hf := ite_f c6 hf
          refine r_iinc C hl (kx := 2) rfl (by decide) (L' := [(2, 0, (x2 + 1)), (0, 2, x0), (1, 0, x1)]) rfl dX7_readLane_131 (fun ls hl => ?_)
          refine r_goto C (tgt := 102) (by decide) dX7_readLane_134 ?_
          exact ih _ _ _ _ _ _ _ hf t0 hw (lvh_sub hl [1, 2, 0] rfl)
        · have hf := ite_t c6 hf
          refine r_iconst C dX7_readLane_129 ?_
          exact r_zret C hw (by decide) hf dX7_readLane_130
set_option maxHeartbeats 4000000 in
set_option maxRecDepth 20000 in
theorem w_X7_readLane_0 (C : Cx p s m args meth c D b cX7_readLane 3 RX7 (some .boolean)) {r : Int} {μ' : Mem} {x0 : Int} {μ : Mem} {H : Heap} {locs : List Loc} {ls : Array Slot} (hf : f_X7_readLane x0 μ = some (r, μ')) (t0 : isK x0 7) (hw : Hw D b μ s.heap H locs) (hl : lvh b ls 3 [(0, 2, x0)]) : W p l e (rm 3) s m args below meth c H locs 0 0 (QM below args s D b (some (.int (jI r))) μ') (F0 m 0 ls []) := by
  unfold f_X7_readLane at hf
  refine r_aload_n C hl (kx := 0) rfl rfl dX7_readLane_0 ?_
  refine gf_7_25 C hw t0 dX7_readLane_1 ?_
  obtain ⟨g1, hf⟩ := gd_some hf
  refine gf_7_98 C hw g1 dX7_readLane_4 ?_
  obtain ⟨v2, e3, hf⟩ := nm_some hf
  refine top_i e3 ?_
  refine r_istore_n C hl (by decide) (L' := [(1, 0, v2), (0, 2, x0)]) rfl rfl dX7_readLane_7 (fun ls hl => ?_)
  refine r_iload_n C hl (kx := 0) rfl rfl dX7_readLane_8 ?_
  refine r_if_lt C (tgt := 18) (by decide) dX7_readLane_9 (fun c4 => ?_) (fun c4 => ?_)
  · have hf := ite_t c4 hf
    exact w_X7_readLane_18 C hf t0 hw (lvh_sub hl [1] rfl)
  · have hf := ite_f c4 hf
    refine r_iload_n C hl (kx := 0) rfl rfl dX7_readLane_12 ?_
    refine r_bipush C (by decide) dX7_readLane_13 ?_
    refine r_icmp_lt C (tgt := 24) (by decide) dX7_readLane_15 (fun c5 => ?_) (fun c5 => ?_)
    · have hf := ite_t c5 hf
      refine r_aload_n C hl (kx := 1) rfl rfl dX7_readLane_24 ?_
      refine gf_7_12 C hw t0 dX7_readLane_25 ?_
      obtain ⟨r7, μ6, e8, hf⟩ := bn_some hf
      refine r_callVn C hw (K := []) ok9 (ow_7_0 t0) (c_X9_advance l D b (ow_7_0 t0) e8) mi_X9_advance in_X9_advance se_X9_advance kl_7_55 rfl rfl (lvh_sz hl) (by decide) (Kr := []) rfl (Nat.le_of_ble_eq_true rfl) dX7_readLane_28 (fun H locs hw => ?_)
      refine r_aload_n C hl (kx := 1) rfl rfl dX7_readLane_31 ?_
      refine r_iconst C dX7_readLane_32 ?_
      refine r_aload_n C hl (kx := 1) rfl rfl dX7_readLane_33 ?_
      refine gf_7_25 C hw t0 dX7_readLane_34 ?_
      obtain ⟨g9, hf⟩ := gd_some hf
      refine gf_7_74 C hw g9 dX7_readLane_37 ?_
      refine r_iconst C dX7_readLane_40 ?_
      refine r_isub C dX7_readLane_41 ?_
      refine r_iconst C dX7_readLane_42 ?_
      obtain ⟨r11, μ10, e12, hf⟩ := bn_some hf
      refine r_callVv C hw (K := [(0, 0), (0, ((μ6 (μ6 x0 1) 0) - 1)), (0, (-1))]) ok7 t0 (c_X7_takeNumber l D b t0 e12) mi_X7_takeNumber in_X7_takeNumber se_X7_takeNumber kl_7_70 rfl rfl (lvh_sz hl) (by decide) (Kr := []) rfl (Nat.le_of_ble_eq_true rfl) dX7_readLane_43 (fun H locs hw => ?_)
      refine r_if_ne C (tgt := 51) (by decide) dX7_readLane_46 (fun c13 => ?_) (fun c13 => ?_)
      · have hf := ite_f c13 hf
        refine r_aload_n C hl (kx := 1) rfl rfl dX7_readLane_51 ?_
        refine gf_7_25 C hw t0 dX7_readLane_52 ?_
        obtain ⟨g14, hf⟩ := gd_some hf
        refine gf_7_101 C hw g14 dX7_readLane_55 ?_
        refine r_iload_n C hl (kx := 0) rfl rfl dX7_readLane_58 ?_
        refine r_aload_n C hl (kx := 1) rfl rfl dX7_readLane_59 ?_
        refine gf_7_61 C hw t0 dX7_readLane_60 ?_
        obtain ⟨g17, hf⟩ := gd_some hf
        obtain ⟨μ15, e16, hf⟩ := nm_some hf
        refine r_iast C hw (n := 9) (ow_3_8 g14) (j := (nrm v2)) rfl g17 (by decide) dX7_readLane_63 (fun H locs hw => ?_)
        rw [← e16] at hw
        refine r_aload_n C hl (kx := 1) rfl rfl dX7_readLane_64 ?_
        refine r_iconst C dX7_readLane_65 ?_
        refine r_aload_n C hl (kx := 1) rfl rfl dX7_readLane_66 ?_
        refine gf_7_25 C hw t0 dX7_readLane_67 ?_
        obtain ⟨g18, hf⟩ := gd_some hf
        refine gf_7_74 C hw g18 dX7_readLane_70 ?_
        refine r_iconst C dX7_readLane_73 ?_
        refine r_isub C dX7_readLane_74 ?_
        refine r_aload_n C hl (kx := 1) rfl rfl dX7_readLane_75 ?_
        refine gf_7_61 C hw t0 dX7_readLane_76 ?_
        obtain ⟨r20, μ19, e21, hf⟩ := bn_some hf
        refine r_callVv C hw (K := [(0, 0), (0, ((μ15 (μ15 x0 1) 0) - 1)), (0, (μ15 x0 4))]) ok7 t0 (c_X7_takeNumber l D b t0 e21) mi_X7_takeNumber in_X7_takeNumber se_X7_takeNumber kl_7_70 rfl rfl (lvh_sz hl) (by decide) (Kr := []) rfl (Nat.le_of_ble_eq_true rfl) dX7_readLane_79 (fun H locs hw => ?_)
        refine r_if_ne C (tgt := 87) (by decide) dX7_readLane_82 (fun c22 => ?_) (fun c22 => ?_)
        · have hf := ite_f c22 hf
          refine r_aload_n C hl (kx := 1) rfl rfl dX7_readLane_87 ?_
          refine gf_7_25 C hw t0 dX7_readLane_88 ?_
          obtain ⟨g23, hf⟩ := gd_some hf
          refine gf_7_105 C hw g23 dX7_readLane_91 ?_
          refine r_iload_n C hl (kx := 0) rfl rfl dX7_readLane_94 ?_
          refine r_aload_n C hl (kx := 1) rfl rfl dX7_readLane_95 ?_
          refine gf_7_61 C hw t0 dX7_readLane_96 ?_
          obtain ⟨g26, hf⟩ := gd_some hf
          obtain ⟨μ24, e25, hf⟩ := nm_some hf
          refine r_iast C hw (n := 9) (ow_3_9 g23) (j := (nrm v2)) rfl g26 (by decide) dX7_readLane_99 (fun H locs hw => ?_)
          rw [← e25] at hw
          refine r_iconst C dX7_readLane_100 ?_
          refine r_istore_n C hl (by decide) (L' := [(2, 0, 0), (1, 0, v2), (0, 2, x0)]) rfl rfl dX7_readLane_101 (fun ls hl => ?_)
          exact w_X7_readLane_102 C FU _ _ _ _ _ _ _ hf t0 hw (lvh_sub hl [2, 1, 0] rfl)
        · have hf := ite_t c22 hf
          refine r_iconst C dX7_readLane_85 ?_
          exact r_zret C hw (by decide) hf dX7_readLane_86
      · have hf := ite_t c13 hf
        refine r_iconst C dX7_readLane_49 ?_
        exact r_zret C hw (by decide) hf dX7_readLane_50
    · have hf := ite_f c5 hf
      exact w_X7_readLane_18 C hf t0 hw (lvh_sub hl [1] rfl)
theorem c_X7_readLane (l : Launch) (D : Ds) (b : Nat) {x0 : Int} {μ μ' : Mem} {r : Int} (t0 : isK x0 7) (hf : f_X7_readLane x0 μ = some (r, μ')) : Ctr l D b yX7_readLane cX7_readLane 3 (some .boolean) 3 [(2, x0)] μ (some (.int (jI r))) μ' := by
  refine Ctr.of (by decide +kernel) (Nat.le_of_ble_eq_true rfl) ?_
  intro p e s m below meth c C hw ls hl
  exact w_X7_readLane_0 C hf t0 hw hl
set_option maxHeartbeats 4000000 in
set_option maxRecDepth 20000 in
theorem w_X7_readCart_0 (C : Cx p s m args meth c D b cX7_readCart 1 RX7 (some .boolean)) {r : Int} {μ' : Mem} {x0 : Int} {μ : Mem} {H : Heap} {locs : List Loc} {ls : Array Slot} (hf : f_X7_readCart x0 μ = some (r, μ')) (t0 : isK x0 7) (hw : Hw D b μ s.heap H locs) (hl : lvh b ls 1 [(0, 2, x0)]) : W p l e (rm 3) s m args below meth c H locs 0 0 (QM below args s D b (some (.int (jI r))) μ') (F0 m 0 ls []) := by
  unfold f_X7_readCart at hf
  refine r_aload_n C hl (kx := 0) rfl rfl dX7_readCart_0 ?_
  refine gf_7_12 C hw t0 dX7_readCart_1 ?_
  obtain ⟨r2, μ1, e3, hf⟩ := bn_some hf
  refine r_callVn C hw (K := []) ok9 (ow_7_0 t0) (c_X9_advance l D b (ow_7_0 t0) e3) mi_X9_advance in_X9_advance se_X9_advance kl_7_55 rfl rfl (lvh_sz hl) (by decide) (Kr := []) rfl (Nat.le_of_ble_eq_true rfl) dX7_readCart_4 (fun H locs hw => ?_)
  refine r_aload_n C hl (kx := 0) rfl rfl dX7_readCart_7 ?_
  refine r_sipush C (by decide) dX7_readCart_8 ?_
  obtain ⟨r5, μ4, e6, hf⟩ := bn_some hf
  refine r_callVv C hw (K := [(0, 135)]) ok7 t0 (c_X7_take l D b t0 e6) mi_X7_take in_X7_take se_X7_take kl_7_64 rfl rfl (lvh_sz hl) (by decide) (Kr := []) rfl (Nat.le_of_ble_eq_true rfl) dX7_readCart_11 (fun H locs hw => ?_)
  refine r_if_eq C (tgt := 35) (by decide) dX7_readCart_14 (fun c7 => ?_) (fun c7 => ?_)
  · have hf := ite_t c7 hf
    refine r_iconst C dX7_readCart_35 ?_
    exact r_zret C hw (by decide) hf dX7_readCart_36
  · have hf := ite_f c7 hf
    refine r_aload_n C hl (kx := 0) rfl rfl dX7_readCart_17 ?_
    refine r_iconst C dX7_readCart_18 ?_
    refine r_aload_n C hl (kx := 0) rfl rfl dX7_readCart_19 ?_
    refine gf_7_25 C hw t0 dX7_readCart_20 ?_
    obtain ⟨g8, hf⟩ := gd_some hf
    refine gf_7_74 C hw g8 dX7_readCart_23 ?_
    refine r_iconst C dX7_readCart_26 ?_
    refine r_isub C dX7_readCart_27 ?_
    refine r_iconst C dX7_readCart_28 ?_
    obtain ⟨r10, μ9, e11, hf⟩ := bn_some hf
    refine r_callVv C hw (K := [(0, 0), (0, ((μ4 (μ4 x0 1) 0) - 1)), (0, (-1))]) ok7 t0 (c_X7_takeNumber l D b t0 e11) mi_X7_takeNumber in_X7_takeNumber se_X7_takeNumber kl_7_70 rfl rfl (lvh_sz hl) (by decide) (Kr := []) rfl (Nat.le_of_ble_eq_true rfl) dX7_readCart_29 (fun H locs hw => ?_)
    refine r_if_ne C (tgt := 37) (by decide) dX7_readCart_32 (fun c12 => ?_) (fun c12 => ?_)
    · have hf := ite_f c12 hf
      refine r_aload_n C hl (kx := 0) rfl rfl dX7_readCart_37 ?_
      refine gf_7_25 C hw t0 dX7_readCart_38 ?_
      refine r_aload_n C hl (kx := 0) rfl rfl dX7_readCart_41 ?_
      refine gf_7_61 C hw t0 dX7_readCart_42 ?_
      obtain ⟨g13, hf⟩ := gd_some hf
      obtain ⟨μ14, e15, hf⟩ := nm_some hf
      refine pf_7_120 C hw g13 dX7_readCart_45 (fun H locs hw => ?_)
      rw [← e15] at hw
      refine r_aload_n C hl (kx := 0) rfl rfl dX7_readCart_48 ?_
      refine r_sipush C (by decide) dX7_readCart_49 ?_
      obtain ⟨r17, μ16, e18, hf⟩ := bn_some hf
      refine r_callVv C hw (K := [(0, 136)]) ok7 t0 (c_X7_take l D b t0 e18) mi_X7_take in_X7_take se_X7_take kl_7_64 rfl rfl (lvh_sz hl) (by decide) (Kr := []) rfl (Nat.le_of_ble_eq_true rfl) dX7_readCart_52 (fun H locs hw => ?_)
      refine r_if_eq C (tgt := 69) (by decide) dX7_readCart_55 (fun c19 => ?_) (fun c19 => ?_)
      · have hf := ite_t c19 hf
        refine r_iconst C dX7_readCart_69 ?_
        exact r_zret C hw (by decide) hf dX7_readCart_70
      · have hf := ite_f c19 hf
        refine r_aload_n C hl (kx := 0) rfl rfl dX7_readCart_58 ?_
        refine r_iconst C dX7_readCart_59 ?_
        refine r_bipush C (by decide) dX7_readCart_60 ?_
        refine r_iconst C dX7_readCart_62 ?_
        obtain ⟨r21, μ20, e22, hf⟩ := bn_some hf
        refine r_callVv C hw (K := [(0, 0), (0, 9), (0, (-1))]) ok7 t0 (c_X7_takeNumber l D b t0 e22) mi_X7_takeNumber in_X7_takeNumber se_X7_takeNumber kl_7_70 rfl rfl (lvh_sz hl) (by decide) (Kr := []) rfl (Nat.le_of_ble_eq_true rfl) dX7_readCart_63 (fun H locs hw => ?_)
        refine r_if_ne C (tgt := 71) (by decide) dX7_readCart_66 (fun c23 => ?_) (fun c23 => ?_)
        · have hf := ite_f c23 hf
          refine r_aload_n C hl (kx := 0) rfl rfl dX7_readCart_71 ?_
          refine gf_7_25 C hw t0 dX7_readCart_72 ?_
          refine r_aload_n C hl (kx := 0) rfl rfl dX7_readCart_75 ?_
          refine gf_7_61 C hw t0 dX7_readCart_76 ?_
          obtain ⟨g24, hf⟩ := gd_some hf
          obtain ⟨μ25, e26, hf⟩ := nm_some hf
          refine pf_7_123 C hw g24 dX7_readCart_79 (fun H locs hw => ?_)
          rw [← e26] at hw
          refine r_aload_n C hl (kx := 0) rfl rfl dX7_readCart_82 ?_
          obtain ⟨r28, μ27, e29, hf⟩ := bn_some hf
          refine r_callVv C hw (K := []) ok7 t0 (c_X7_takeLineEnd l D b t0 e29) mi_X7_takeLineEnd in_X7_takeLineEnd se_X7_takeLineEnd kl_7_77 rfl rfl (lvh_sz hl) (by decide) (Kr := []) rfl (Nat.le_of_ble_eq_true rfl) dX7_readCart_83 (fun H locs hw => ?_)
          obtain ⟨g30, hf⟩ := gd_some hf
          exact r_zret C hw g30 hf dX7_readCart_86
        · have hf := ite_t c23 hf
          refine r_iconst C dX7_readCart_69 ?_
          exact r_zret C hw (by decide) hf dX7_readCart_70
    · have hf := ite_t c12 hf
      refine r_iconst C dX7_readCart_35 ?_
      exact r_zret C hw (by decide) hf dX7_readCart_36
theorem c_X7_readCart (l : Launch) (D : Ds) (b : Nat) {x0 : Int} {μ μ' : Mem} {r : Int} (t0 : isK x0 7) (hf : f_X7_readCart x0 μ = some (r, μ')) : Ctr l D b yX7_readCart cX7_readCart 1 (some .boolean) 3 [(2, x0)] μ (some (.int (jI r))) μ' := by
  refine Ctr.of (by decide +kernel) (Nat.le_of_ble_eq_true rfl) ?_
  intro p e s m below meth c C hw ls hl
  exact w_X7_readCart_0 C hf t0 hw hl
set_option maxHeartbeats 4000000 in
set_option maxRecDepth 20000 in
theorem w_X7_readPerson_18 (C : Cx p s m args meth c D b cX7_readPerson 3 RX7 (some .boolean)) {r : Int} {μ' : Mem} {x0 : Int} {μ : Mem} {H : Heap} {locs : List Loc} {ls : Array Slot} (hf : f_X7_readPerson_j18 x0 μ = some (r, μ')) (t0 : isK x0 7) (hw : Hw D b μ s.heap H locs) (hl : lvh b ls 3 [(0, 2, x0)]) : W p l e (rm 3) s m args below meth c H locs 0 0 (QM below args s D b (some (.int (jI r))) μ') (F0 m 18 ls []) := by
  unfold f_X7_readPerson_j18 at hf
  refine r_aload_n C hl (kx := 0) rfl rfl dX7_readPerson_18 ?_
  refine r_iconst C dX7_readPerson_19 ?_
  obtain ⟨r2, μ1, e3, hf⟩ := bn_some hf
  refine r_callVv C hw (K := [(0, 4)]) ok7 t0 (c_X7_refuse l D b t0 e3) mi_X7_refuse in_X7_refuse se_X7_refuse kl_7_51 rfl rfl (lvh_sz hl) (by decide) (Kr := []) rfl (Nat.le_of_ble_eq_true rfl) dX7_readPerson_20 (fun H locs hw => ?_)
  obtain ⟨g4, hf⟩ := gd_some hf
  exact r_zret C hw g4 hf dX7_readPerson_23
set_option maxHeartbeats 4000000 in
set_option maxRecDepth 20000 in
theorem w_X7_readPerson_117 (C : Cx p s m args meth c D b cX7_readPerson 3 RX7 (some .boolean)) {r : Int} {μ' : Mem} {x0 : Int} {μ : Mem} {H : Heap} {locs : List Loc} {ls : Array Slot} (hf : f_X7_readPerson_j117 x0 μ = some (r, μ')) (t0 : isK x0 7) (hw : Hw D b μ s.heap H locs) (hl : lvh b ls 3 [(0, 2, x0)]) : W p l e (rm 3) s m args below meth c H locs 0 0 (QM below args s D b (some (.int (jI r))) μ') (F0 m 117 ls []) := by
  unfold f_X7_readPerson_j117 at hf
  refine r_aload_n C hl (kx := 0) rfl rfl dX7_readPerson_117 ?_
  refine gf_7_25 C hw t0 dX7_readPerson_118 ?_
  refine r_dup C (rfv_cat _ _) dX7_readPerson_121 ?_
  obtain ⟨g1, hf⟩ := gd_some hf
  refine gf_7_126 C hw g1 dX7_readPerson_122 ?_
  refine r_iconst C dX7_readPerson_125 ?_
  refine r_iadd C dX7_readPerson_126 ?_
  obtain ⟨μ2, e3, hf⟩ := nm_some hf
  refine pf_7_126 C hw g1 dX7_readPerson_127 (fun H locs hw => ?_)
  rw [← e3] at hw
  refine r_aload_n C hl (kx := 0) rfl rfl dX7_readPerson_130 ?_
  obtain ⟨r5, μ4, e6, hf⟩ := bn_some hf
  refine r_callVv C hw (K := []) ok7 t0 (c_X7_takeLineEnd l D b t0 e6) mi_X7_takeLineEnd in_X7_takeLineEnd se_X7_takeLineEnd kl_7_77 rfl rfl (lvh_sz hl) (by decide) (Kr := []) rfl (Nat.le_of_ble_eq_true rfl) dX7_readPerson_131 (fun H locs hw => ?_)
  obtain ⟨g7, hf⟩ := gd_some hf
  exact r_zret C hw g7 hf dX7_readPerson_134
set_option maxHeartbeats 4000000 in
set_option maxRecDepth 20000 in
theorem w_X7_readPerson_69 (C : Cx p s m args meth c D b cX7_readPerson 3 RX7 (some .boolean)) {r : Int} {μ' : Mem} : ∀ (n : Nat) (x0 x1 x2 : Int) (μ : Mem) (H : Heap) (locs : List Loc) (ls : Array Slot), f_X7_readPerson_w69 n x0 x1 x2 μ = some (r, μ') → isK x0 7 → Hw D b μ s.heap H locs → lvh b ls 3 [(0, 2, x0), (1, 0, x1), (2, 0, x2)] → W p l e (rm 3) s m args below meth c H locs 0 0 (QM below args s D b (some (.int (jI r))) μ') (F0 m 69 ls []) := by
  intro n
  induction n with
  | zero => intro x0 x1 x2 μ H locs ls hf; cases hf
  | succ n ih =>
    intro x0 x1 x2 μ H locs ls hf t0 hw hl
    rw [f_X7_readPerson_w69.eq_2] at hf
    refine r_iload_n C hl (kx := 2) rfl rfl dX7_readPerson_69 ?_
    refine r_sipush C (by decide) dX7_readPerson_70 ?_
    refine r_icmp_ge C (tgt := 117) (by decide) dX7_readPerson_73 (fun c1 => ?_) (fun c1 => ?_)
    · have hf := ite_t c1 hf
      exact w_X7_readPerson_117 C hf t0 hw (lvh_sub hl [0] rfl)
    · have hf := ite_f c1 hf
      refine r_aload_n C hl (kx := 0) rfl rfl dX7_readPerson_76 ?_
      refine gf_7_12 C hw t0 dX7_readPerson_77 ?_
      refine gf_7_42 C hw (ow_7_0 t0) dX7_readPerson_80 ?_
      refine r_sipush C (by decide) dX7_readPerson_83 ?_
      refine r_icmp_ne C (tgt := 117) (by decide) dX7_readPerson_86 (fun c2 => ?_) (fun c2 => ?_)
      · have hf := ite_f c2 hf
        exact w_X7_readPerson_117 C hf t0 hw (lvh_sub hl [0] rfl)
      · have hf := ite_t c2 hf
        refine r_aload_n C hl (kx := 0) rfl rfl dX7_readPerson_89 ?_
        refine gf_7_25 C hw t0 dX7_readPerson_90 ?_
        refine r_dup C (rfv_cat _ _) dX7_readPerson_93 ?_
        obtain ⟨g3, hf⟩ := gd_some hf
        refine gf_7_132 C hw g3 dX7_readPerson_94 ?_
        refine r_iconst C dX7_readPerson_97 ?_
        refine r_iload_n C hl (kx := 1) rfl rfl dX7_readPerson_98 ?_
        refine r_ishl C dX7_readPerson_99 ?_
        refine r_ior C dX7_readPerson_100 ?_
        obtain ⟨μ4, e5, hf⟩ := nm_some hf
        refine pf_7_132 C hw g3 dX7_readPerson_101 (fun H locs hw => ?_)
        rw [← e5] at hw
        refine r_aload_n C hl (kx := 0) rfl rfl dX7_readPerson_104 ?_
        refine gf_7_12 C hw t0 dX7_readPerson_105 ?_
        obtain ⟨r7, μ6, e8, hf⟩ := bn_some hf
        refine r_callVn C hw (K := []) ok9 (ow_7_0 t0) (c_X9_advance l D b (ow_7_0 t0) e8) mi_X9_advance in_X9_advance se_X9_advance kl_7_55 rfl rfl (lvh_sz hl) (by decide) (Kr := []) rfl (Nat.le_of_ble_eq_true rfl) dX7_readPerson_108 (fun H locs hw => ?_)
        refine r_iinc C hl (kx := 2) rfl (by decide) (L' := [(2, 0, (x2 + 1)), (0, 2, x0), (1, 0, x1)]) rfl dX7_readPerson_111 (fun ls hl => ?_)
        refine r_goto C (tgt := 69) (by decide) dX7_readPerson_114 ?_
        exact ih _ _ _ _ _ _ _ hf t0 hw (lvh_sub hl [1, 2, 0] rfl)
set_option maxHeartbeats 4000000 in
set_option maxRecDepth 20000 in
theorem w_X7_readPerson_0 (C : Cx p s m args meth c D b cX7_readPerson 3 RX7 (some .boolean)) {r : Int} {μ' : Mem} {x0 : Int} {μ : Mem} {H : Heap} {locs : List Loc} {ls : Array Slot} (hf : f_X7_readPerson x0 μ = some (r, μ')) (t0 : isK x0 7) (hw : Hw D b μ s.heap H locs) (hl : lvh b ls 3 [(0, 2, x0)]) : W p l e (rm 3) s m args below meth c H locs 0 0 (QM below args s D b (some (.int (jI r))) μ') (F0 m 0 ls []) := by
  unfold f_X7_readPerson at hf
  refine r_aload_n C hl (kx := 0) rfl rfl dX7_readPerson_0 ?_
  refine gf_7_25 C hw t0 dX7_readPerson_1 ?_
  obtain ⟨g1, hf⟩ := gd_some hf
  refine gf_7_126 C hw g1 dX7_readPerson_4 ?_
  obtain ⟨v2, e3, hf⟩ := nm_some hf
  refine top_i e3 ?_
  refine r_istore_n C hl (by decide) (L' := [(1, 0, v2), (0, 2, x0)]) rfl rfl dX7_readPerson_7 (fun ls hl => ?_)
  refine r_iload_n C hl (kx := 0) rfl rfl dX7_readPerson_8 ?_
  refine r_if_lt C (tgt := 18) (by decide) dX7_readPerson_9 (fun c4 => ?_) (fun c4 => ?_)
  · have hf := ite_t c4 hf
    exact w_X7_readPerson_18 C hf t0 hw (lvh_sub hl [1] rfl)
  · have hf := ite_f c4 hf
    refine r_iload_n C hl (kx := 0) rfl rfl dX7_readPerson_12 ?_
    refine r_bipush C (by decide) dX7_readPerson_13 ?_
    refine r_icmp_lt C (tgt := 24) (by decide) dX7_readPerson_15 (fun c5 => ?_) (fun c5 => ?_)
    · have hf := ite_t c5 hf
      refine r_aload_n C hl (kx := 1) rfl rfl dX7_readPerson_24 ?_
      refine gf_7_12 C hw t0 dX7_readPerson_25 ?_
      obtain ⟨r7, μ6, e8, hf⟩ := bn_some hf
      refine r_callVn C hw (K := []) ok9 (ow_7_0 t0) (c_X9_advance l D b (ow_7_0 t0) e8) mi_X9_advance in_X9_advance se_X9_advance kl_7_55 rfl rfl (lvh_sz hl) (by decide) (Kr := []) rfl (Nat.le_of_ble_eq_true rfl) dX7_readPerson_28 (fun H locs hw => ?_)
      refine r_aload_n C hl (kx := 1) rfl rfl dX7_readPerson_31 ?_
      refine r_sipush C (by decide) dX7_readPerson_32 ?_
      obtain ⟨r10, μ9, e11, hf⟩ := bn_some hf
      refine r_callVv C hw (K := [(0, 138)]) ok7 t0 (c_X7_take l D b t0 e11) mi_X7_take in_X7_take se_X7_take kl_7_64 rfl rfl (lvh_sz hl) (by decide) (Kr := []) rfl (Nat.le_of_ble_eq_true rfl) dX7_readPerson_35 (fun H locs hw => ?_)
      refine r_if_eq C (tgt := 52) (by decide) dX7_readPerson_38 (fun c12 => ?_) (fun c12 => ?_)
      · have hf := ite_t c12 hf
        refine r_iconst C dX7_readPerson_52 ?_
        exact r_zret C hw (by decide) hf dX7_readPerson_53
      · have hf := ite_f c12 hf
        refine r_aload_n C hl (kx := 1) rfl rfl dX7_readPerson_41 ?_
        refine r_iconst C dX7_readPerson_42 ?_
        refine r_bipush C (by decide) dX7_readPerson_43 ?_
        refine r_iconst C dX7_readPerson_45 ?_
        obtain ⟨r14, μ13, e15, hf⟩ := bn_some hf
        refine r_callVv C hw (K := [(0, 0), (0, 8), (0, (-1))]) ok7 t0 (c_X7_takeNumber l D b t0 e15) mi_X7_takeNumber in_X7_takeNumber se_X7_takeNumber kl_7_70 rfl rfl (lvh_sz hl) (by decide) (Kr := []) rfl (Nat.le_of_ble_eq_true rfl) dX7_readPerson_46 (fun H locs hw => ?_)
        refine r_if_ne C (tgt := 54) (by decide) dX7_readPerson_49 (fun c16 => ?_) (fun c16 => ?_)
        · have hf := ite_f c16 hf
          refine r_aload_n C hl (kx := 1) rfl rfl dX7_readPerson_54 ?_
          refine gf_7_25 C hw t0 dX7_readPerson_55 ?_
          obtain ⟨g17, hf⟩ := gd_some hf
          refine gf_7_129 C hw g17 dX7_readPerson_58 ?_
          refine r_iload_n C hl (kx := 0) rfl rfl dX7_readPerson_61 ?_
          refine r_aload_n C hl (kx := 1) rfl rfl dX7_readPerson_62 ?_
          refine gf_7_61 C hw t0 dX7_readPerson_63 ?_
          obtain ⟨g20, hf⟩ := gd_some hf
          obtain ⟨μ18, e19, hf⟩ := nm_some hf
          refine r_iast C hw (n := 8) (ow_3_13 g17) (j := (nrm v2)) rfl g20 (by decide) dX7_readPerson_66 (fun H locs hw => ?_)
          rw [← e19] at hw
          refine r_iconst C dX7_readPerson_67 ?_
          refine r_istore_n C hl (by decide) (L' := [(2, 0, 0), (1, 0, v2), (0, 2, x0)]) rfl rfl dX7_readPerson_68 (fun ls hl => ?_)
          exact w_X7_readPerson_69 C FU _ _ _ _ _ _ _ hf t0 hw (lvh_sub hl [2, 1, 0] rfl)
        · have hf := ite_t c16 hf
          refine r_iconst C dX7_readPerson_52 ?_
          exact r_zret C hw (by decide) hf dX7_readPerson_53
    · have hf := ite_f c5 hf
      exact w_X7_readPerson_18 C hf t0 hw (lvh_sub hl [1] rfl)
theorem c_X7_readPerson (l : Launch) (D : Ds) (b : Nat) {x0 : Int} {μ μ' : Mem} {r : Int} (t0 : isK x0 7) (hf : f_X7_readPerson x0 μ = some (r, μ')) : Ctr l D b yX7_readPerson cX7_readPerson 3 (some .boolean) 3 [(2, x0)] μ (some (.int (jI r))) μ' := by
  refine Ctr.of (by decide +kernel) (Nat.le_of_ble_eq_true rfl) ?_
  intro p e s m below meth c C hw ls hl
  exact w_X7_readPerson_0 C hf t0 hw hl
set_option maxHeartbeats 4000000 in
set_option maxRecDepth 20000 in
theorem w_X7_readRain_0 (C : Cx p s m args meth c D b cX7_readRain 1 RX7 (some .boolean)) {r : Int} {μ' : Mem} {x0 : Int} {μ : Mem} {H : Heap} {locs : List Loc} {ls : Array Slot} (hf : f_X7_readRain x0 μ = some (r, μ')) (t0 : isK x0 7) (hw : Hw D b μ s.heap H locs) (hl : lvh b ls 1 [(0, 2, x0)]) : W p l e (rm 3) s m args below meth c H locs 0 0 (QM below args s D b (some (.int (jI r))) μ') (F0 m 0 ls []) := by
  unfold f_X7_readRain at hf
  refine r_aload_n C hl (kx := 0) rfl rfl dX7_readRain_0 ?_
  refine gf_7_12 C hw t0 dX7_readRain_1 ?_
  obtain ⟨r2, μ1, e3, hf⟩ := bn_some hf
  refine r_callVn C hw (K := []) ok9 (ow_7_0 t0) (c_X9_advance l D b (ow_7_0 t0) e3) mi_X9_advance in_X9_advance se_X9_advance kl_7_55 rfl rfl (lvh_sz hl) (by decide) (Kr := []) rfl (Nat.le_of_ble_eq_true rfl) dX7_readRain_4 (fun H locs hw => ?_)
  refine r_aload_n C hl (kx := 0) rfl rfl dX7_readRain_7 ?_
  refine r_iconst C dX7_readRain_8 ?_
  refine r_bipush C (by decide) dX7_readRain_9 ?_
  refine r_iconst C dX7_readRain_11 ?_
  obtain ⟨r5, μ4, e6, hf⟩ := bn_some hf
  refine r_callVv C hw (K := [(0, 0), (0, 9), (0, (-1))]) ok7 t0 (c_X7_takeNumber l D b t0 e6) mi_X7_takeNumber in_X7_takeNumber se_X7_takeNumber kl_7_70 rfl rfl (lvh_sz hl) (by decide) (Kr := []) rfl (Nat.le_of_ble_eq_true rfl) dX7_readRain_12 (fun H locs hw => ?_)
  refine r_if_ne C (tgt := 20) (by decide) dX7_readRain_15 (fun c7 => ?_) (fun c7 => ?_)
  · have hf := ite_f c7 hf
    refine r_aload_n C hl (kx := 0) rfl rfl dX7_readRain_20 ?_
    refine gf_7_25 C hw t0 dX7_readRain_21 ?_
    refine r_aload_n C hl (kx := 0) rfl rfl dX7_readRain_24 ?_
    refine gf_7_61 C hw t0 dX7_readRain_25 ?_
    obtain ⟨g8, hf⟩ := gd_some hf
    obtain ⟨μ9, e10, hf⟩ := nm_some hf
    refine pf_7_135 C hw g8 dX7_readRain_28 (fun H locs hw => ?_)
    rw [← e10] at hw
    refine r_aload_n C hl (kx := 0) rfl rfl dX7_readRain_31 ?_
    obtain ⟨r12, μ11, e13, hf⟩ := bn_some hf
    refine r_callVv C hw (K := []) ok7 t0 (c_X7_takeLineEnd l D b t0 e13) mi_X7_takeLineEnd in_X7_takeLineEnd se_X7_takeLineEnd kl_7_77 rfl rfl (lvh_sz hl) (by decide) (Kr := []) rfl (Nat.le_of_ble_eq_true rfl) dX7_readRain_32 (fun H locs hw => ?_)
    obtain ⟨g14, hf⟩ := gd_some hf
    exact r_zret C hw g14 hf dX7_readRain_35
  · have hf := ite_t c7 hf
    refine r_iconst C dX7_readRain_18 ?_
    exact r_zret C hw (by decide) hf dX7_readRain_19
theorem c_X7_readRain (l : Launch) (D : Ds) (b : Nat) {x0 : Int} {μ μ' : Mem} {r : Int} (t0 : isK x0 7) (hf : f_X7_readRain x0 μ = some (r, μ')) : Ctr l D b yX7_readRain cX7_readRain 1 (some .boolean) 3 [(2, x0)] μ (some (.int (jI r))) μ' := by
  refine Ctr.of (by decide +kernel) (Nat.le_of_ble_eq_true rfl) ?_
  intro p e s m below meth c C hw ls hl
  exact w_X7_readRain_0 C hf t0 hw hl
set_option maxHeartbeats 4000000 in
set_option maxRecDepth 20000 in
theorem w_X7_addAtom_0 (C : Cx p s m args meth c D b cX7_addAtom 3 RX7 (some .boolean)) {r : Int} {μ' : Mem} {x0 x1 x2 : Int} {μ : Mem} {H : Heap} {locs : List Loc} {ls : Array Slot} (hf : f_X7_addAtom x0 x1 x2 μ = some (r, μ')) (t0 : isK x0 7) (hw : Hw D b μ s.heap H locs) (hl : lvh b ls 3 [(0, 2, x0), (1, 0, x1), (2, 0, x2)]) : W p l e (rm 1) s m args below meth c H locs 0 0 (QM below args s D b (some (.int (jI r))) μ') (F0 m 0 ls []) := by
  unfold f_X7_addAtom at hf
  refine r_aload_n C hl (kx := 0) rfl rfl dX7_addAtom_0 ?_
  refine gf_7_25 C hw t0 dX7_addAtom_1 ?_
  obtain ⟨g1, hf⟩ := gd_some hf
  refine gf_7_142 C hw g1 dX7_addAtom_4 ?_
  refine r_iload_n C hl (kx := 1) rfl rfl dX7_addAtom_7 ?_
  refine r_iload_n C hl (kx := 2) rfl rfl dX7_addAtom_8 ?_
  obtain ⟨r3, μ2, e4, hf⟩ := bn_some hf
  refine r_callVn C hw (K := [(0, x1), (0, x2)]) ok4 (ow_3_14 g1) (c_X4_addStep l D b (ow_3_14 g1) e4) mi_X4_addStep in_X4_addStep se_X4_addStep kl_7_165 rfl rfl (lvh_sz hl) (by decide) (Kr := []) rfl (Nat.le_of_ble_eq_true rfl) dX7_addAtom_9 (fun H locs hw => ?_)
  refine r_aload_n C hl (kx := 0) rfl rfl dX7_addAtom_12 ?_
  refine gf_7_12 C hw t0 dX7_addAtom_13 ?_
  obtain ⟨r6, μ5, e7, hf⟩ := bn_some hf
  refine r_callVn C hw (K := []) ok9 (ow_7_0 t0) (c_X9_advance l D b (ow_7_0 t0) e7) mi_X9_advance in_X9_advance se_X9_advance kl_7_55 rfl rfl (lvh_sz hl) (by decide) (Kr := []) rfl (Nat.le_of_ble_eq_true rfl) dX7_addAtom_16 (fun H locs hw => ?_)
  refine r_iconst C dX7_addAtom_19 ?_
  exact r_zret C hw (by decide) hf dX7_addAtom_20
theorem c_X7_addAtom (l : Launch) (D : Ds) (b : Nat) {x0 x1 x2 : Int} {μ μ' : Mem} {r : Int} (t0 : isK x0 7) (hf : f_X7_addAtom x0 x1 x2 μ = some (r, μ')) : Ctr l D b yX7_addAtom cX7_addAtom 3 (some .boolean) 1 [(2, x0), (0, x1), (0, x2)] μ (some (.int (jI r))) μ' := by
  refine Ctr.of (by decide +kernel) (Nat.le_of_ble_eq_true rfl) ?_
  intro p e s m below meth c C hw ls hl
  exact w_X7_addAtom_0 C hf t0 hw hl
set_option maxHeartbeats 4000000 in
set_option maxRecDepth 20000 in
theorem w_X7_takeOpening_0 (C : Cx p s m args meth c D b cX7_takeOpening 2 RX7 (some .boolean)) {r : Int} {μ' : Mem} {x0 x1 : Int} {μ : Mem} {H : Heap} {locs : List Loc} {ls : Array Slot} (hf : f_X7_takeOpening x0 x1 μ = some (r, μ')) (t0 : isK x0 7) (hw : Hw D b μ s.heap H locs) (hl : lvh b ls 2 [(0, 2, x0), (1, 0, x1)]) : W p l e (rm 1) s m args below meth c H locs 0 0 (QM below args s D b (some (.int (jI r))) μ') (F0 m 0 ls []) := by
  unfold f_X7_takeOpening at hf
  refine r_iload_n C hl (kx := 1) rfl rfl dX7_takeOpening_0 ?_
  refine r_bipush C (by decide) dX7_takeOpening_1 ?_
  refine r_icmp_lt C (tgt := 12) (by decide) dX7_takeOpening_3 (fun c1 => ?_) (fun c1 => ?_)
  · have hf := ite_t c1 hf
    refine r_aload_n C hl (kx := 0) rfl rfl dX7_takeOpening_12 ?_
    refine gf_7_12 C hw t0 dX7_takeOpening_13 ?_
    obtain ⟨r3, μ2, e4, hf⟩ := bn_some hf
    refine r_callVn C hw (K := []) ok9 (ow_7_0 t0) (c_X9_advance l D b (ow_7_0 t0) e4) mi_X9_advance in_X9_advance se_X9_advance kl_7_55 rfl rfl (lvh_sz hl) (by decide) (Kr := []) rfl (Nat.le_of_ble_eq_true rfl) dX7_takeOpening_16 (fun H locs hw => ?_)
    refine r_iconst C dX7_takeOpening_19 ?_
    exact r_zret C hw (by decide) hf dX7_takeOpening_20
  · have hf := ite_f c1 hf
    refine r_aload_n C hl (kx := 0) rfl rfl dX7_takeOpening_6 ?_
    refine r_iconst C dX7_takeOpening_7 ?_
    obtain ⟨r6, μ5, e7, hf⟩ := bn_some hf
    refine r_callVv C hw (K := [(0, 4)]) ok7 t0 (c_X7_refuse l D b t0 e7) mi_X7_refuse in_X7_refuse se_X7_refuse kl_7_51 rfl rfl (lvh_sz hl) (by decide) (Kr := []) rfl (Nat.le_of_ble_eq_true rfl) dX7_takeOpening_8 (fun H locs hw => ?_)
    obtain ⟨g8, hf⟩ := gd_some hf
    exact r_zret C hw g8 hf dX7_takeOpening_11
theorem c_X7_takeOpening (l : Launch) (D : Ds) (b : Nat) {x0 x1 : Int} {μ μ' : Mem} {r : Int} (t0 : isK x0 7) (hf : f_X7_takeOpening x0 x1 μ = some (r, μ')) : Ctr l D b yX7_takeOpening cX7_takeOpening 2 (some .boolean) 1 [(2, x0), (0, x1)] μ (some (.int (jI r))) μ' := by
  refine Ctr.of (by decide +kernel) (Nat.le_of_ble_eq_true rfl) ?_
  intro p e s m below meth c C hw ls hl
  exact w_X7_takeOpening_0 C hf t0 hw hl
set_option maxHeartbeats 4000000 in
set_option maxRecDepth 20000 in
theorem w_X7_readAtom_0 (C : Cx p s m args meth c D b cX7_readAtom 2 RX7 (some .boolean)) {r : Int} {μ' : Mem} (rec : Nat → Int → Int → Mem → Option (Int × Mem)) (h_0 : ∀ (x0 x1 : Int) (μ μ' : Mem) (r : Int), isK x0 7 → rec 0 x0 x1 μ = some (r, μ') → Ctr l D b yX7_readAtom cX7_readAtom 2 (some .boolean) (n0 + 2) [(2, x0), (0, x1)] μ (some (.int (jI r))) μ') (h_1 : ∀ (x0 x1 : Int) (μ μ' : Mem) (r : Int), isK x0 7 → rec 1 x0 x1 μ = some (r, μ') → Ctr l D b yX7_readBoth cX7_readBoth 4 (some .boolean) (n0 + 2) [(2, x0), (0, x1)] μ (some (.int (jI r))) μ') (h_2 : ∀ (x0 x1 : Int) (μ μ' : Mem) (r : Int), isK x0 7 → rec 2 x0 x1 μ = some (r, μ') → Ctr l D b yX7_readIf cX7_readIf 3 (some .boolean) (n0 + 2) [(2, x0), (0, x1)] μ (some (.int (jI r))) μ') (h_3 : ∀ (x0 x1 : Int) (μ μ' : Mem) (r : Int), isK x0 7 → rec 3 x0 x1 μ = some (r, μ') → Ctr l D b yX7_readSum cX7_readSum 5 (some .boolean) (n0 + 2) [(2, x0), (0, x1)] μ (some (.int (jI r))) μ') (h_4 : ∀ (x0 x1 : Int) (μ μ' : Mem) (r : Int), isK x0 7 → rec 4 x0 x1 μ = some (r, μ') → Ctr l D b yX7_readTerm cX7_readTerm 4 (some .boolean) (n0 + 2) [(2, x0), (0, x1)] μ (some (.int (jI r))) μ') (h_5 : ∀ (x0 x1 : Int) (μ μ' : Mem) (r : Int), isK x0 7 → rec 5 x0 x1 μ = some (r, μ') → Ctr l D b yX7_readTruth cX7_readTruth 4 (some .boolean) (n0 + 2) [(2, x0), (0, x1)] μ (some (.int (jI r))) μ') (h_6 : ∀ (x0 x1 : Int) (μ μ' : Mem) (r : Int), isK x0 7 → rec 6 x0 x1 μ = some (r, μ') → Ctr l D b yX7_readUnit cX7_readUnit 4 (some .boolean) (n0 + 2) [(2, x0), (0, x1)] μ (some (.int (jI r))) μ') {x0 x1 : Int} {μ : Mem} {H : Heap} {locs : List Loc} {ls : Array Slot} (hf : b_X7_readAtom rec x0 x1 μ = some (r, μ')) (t0 : isK x0 7) (hw : Hw D b μ s.heap H locs) (hl : lvh b ls 2 [(0, 2, x0), (1, 0, x1)]) : W p l e (rm (n0 + 1 + 2)) s m args below meth c H locs 0 0 (QM below args s D b (some (.int (jI r))) μ') (F0 m 0 ls []) := by
  unfold b_X7_readAtom at hf
  refine r_aload_n C hl (kx := 0) rfl rfl dX7_readAtom_0 ?_
  refine gf_7_12 C hw t0 dX7_readAtom_1 ?_
  refine gf_7_42 C hw (ow_7_0 t0) dX7_readAtom_4 ?_
  rcases Decidable.em (nrm (μ (x0 + 1) 0) = 2) with c1 | c1
  · have hf := ite_t c1 hf
    refine r_look C (tgt := 88) (off := 81) (by decide) (by rw [c1]; rfl) (by decide) dX7_readAtom_7 ?_
    refine r_aload_n C hl (kx := 0) rfl rfl dX7_readAtom_88 ?_
    refine r_iconst C dX7_readAtom_89 ?_
    refine r_aload_n C hl (kx := 0) rfl rfl dX7_readAtom_90 ?_
    refine gf_7_12 C hw t0 dX7_readAtom_91 ?_
    refine gf_7_58 C hw (ow_7_0 t0) dX7_readAtom_94 ?_
    obtain ⟨r3, μ2, e4, hf⟩ := bn_some hf
    refine r_callVv C hw (K := [(0, 0), (0, (μ (x0 + 1) 2))]) ok7 t0 (c_X7_addAtom l D b t0 e4) mi_X7_addAtom in_X7_addAtom se_X7_addAtom kl_7_180 rfl rfl (lvh_sz hl) ⟨by simp only [rm]; omega, by simp only [rm]; omega⟩ (Kr := []) rfl (Nat.le_of_ble_eq_true rfl) dX7_readAtom_97 (fun H locs hw => ?_)
    obtain ⟨g5, hf⟩ := gd_some hf
    exact r_zret C hw g5 hf dX7_readAtom_100
  have hf := ite_f c1 hf
  rcases Decidable.em (nrm (μ (x0 + 1) 0) = 40) with c6 | c6
  · have hf := ite_t c6 hf
    refine r_look C (tgt := 101) (off := 94) (by decide) (by rw [c6]; rfl) (by decide) dX7_readAtom_7 ?_
    refine r_aload_n C hl (kx := 0) rfl rfl dX7_readAtom_101 ?_
    refine r_iload_n C hl (kx := 1) rfl rfl dX7_readAtom_102 ?_
    obtain ⟨r8, μ7, e9, hf⟩ := bn_some hf
    refine r_callVv C hw (K := [(0, x1)]) ok7 t0 (c_X7_takeOpening l D b t0 e9) mi_X7_takeOpening in_X7_takeOpening se_X7_takeOpening kl_7_171 rfl rfl (lvh_sz hl) ⟨by simp only [rm]; omega, by simp only [rm]; omega⟩ (Kr := []) rfl (Nat.le_of_ble_eq_true rfl) dX7_readAtom_103 (fun H locs hw => ?_)
    refine r_if_eq C (tgt := 132) (by decide) dX7_readAtom_106 (fun c10 => ?_) (fun c10 => ?_)
    · have hf := ite_t c10 hf
      refine r_iconst C dX7_readAtom_132 ?_
      exact r_zret C hw (by decide) hf dX7_readAtom_133
    · have hf := ite_f c10 hf
      refine r_aload_n C hl (kx := 0) rfl rfl dX7_readAtom_109 ?_
      refine r_iload_n C hl (kx := 1) rfl rfl dX7_readAtom_110 ?_
      refine r_iconst C dX7_readAtom_111 ?_
      refine r_iadd C dX7_readAtom_112 ?_
      obtain ⟨r12, μ11, e13, hf⟩ := bn_some hf
      refine r_callVv C hw (K := [(0, (x1 + 1))]) ok7 t0 (h_3 _ _ _ _ _ t0 e13) mi_X7_readSum in_X7_readSum se_X7_readSum kl_7_152 rfl rfl (lvh_sz hl) ⟨by simp only [rm]; omega, by simp only [rm]; omega⟩ (Kr := []) rfl (Nat.le_of_ble_eq_true rfl) dX7_readAtom_113 (fun H locs hw => ?_)
      refine r_if_eq C (tgt := 132) (by decide) dX7_readAtom_116 (fun c14 => ?_) (fun c14 => ?_)
      · have hf := ite_t c14 hf
        refine r_iconst C dX7_readAtom_132 ?_
        exact r_zret C hw (by decide) hf dX7_readAtom_133
      · have hf := ite_f c14 hf
        refine r_aload_n C hl (kx := 0) rfl rfl dX7_readAtom_119 ?_
        refine r_bipush C (by decide) dX7_readAtom_120 ?_
        obtain ⟨r16, μ15, e17, hf⟩ := bn_some hf
        refine r_callVv C hw (K := [(0, 41)]) ok7 t0 (c_X7_take l D b t0 e17) mi_X7_take in_X7_take se_X7_take kl_7_64 rfl rfl (lvh_sz hl) ⟨by simp only [rm]; omega, by simp only [rm]; omega⟩ (Kr := []) rfl (Nat.le_of_ble_eq_true rfl) dX7_readAtom_122 (fun H locs hw => ?_)
        refine r_if_eq C (tgt := 132) (by decide) dX7_readAtom_125 (fun c18 => ?_) (fun c18 => ?_)
        · have hf := ite_t c18 hf
          refine r_iconst C dX7_readAtom_132 ?_
          exact r_zret C hw (by decide) hf dX7_readAtom_133
        · have hf := ite_f c18 hf
          refine r_iconst C dX7_readAtom_128 ?_
          refine r_goto C (tgt := 133) (by decide) dX7_readAtom_129 ?_
          exact r_zret C hw (by decide) hf dX7_readAtom_133
  have hf := ite_f c6 hf
  rcases Decidable.em (nrm (μ (x0 + 1) 0) = 130) with c19 | c19
  · have hf := ite_t c19 hf
    refine r_look C (tgt := 140) (off := 133) (by decide) (by rw [c19]; rfl) (by decide) dX7_readAtom_7 ?_
    refine r_aload_n C hl (kx := 0) rfl rfl dX7_readAtom_140 ?_
    refine r_iconst C dX7_readAtom_141 ?_
    refine r_iconst C dX7_readAtom_142 ?_
    obtain ⟨r21, μ20, e22, hf⟩ := bn_some hf
    refine r_callVv C hw (K := [(0, 1), (0, 0)]) ok7 t0 (c_X7_addAtom l D b t0 e22) mi_X7_addAtom in_X7_addAtom se_X7_addAtom kl_7_180 rfl rfl (lvh_sz hl) ⟨by simp only [rm]; omega, by simp only [rm]; omega⟩ (Kr := []) rfl (Nat.le_of_ble_eq_true rfl) dX7_readAtom_143 (fun H locs hw => ?_)
    obtain ⟨g23, hf⟩ := gd_some hf
    exact r_zret C hw g23 hf dX7_readAtom_146
  have hf := ite_f c19 hf
  rcases Decidable.em (nrm (μ (x0 + 1) 0) = 131) with c24 | c24
  · have hf := ite_t c24 hf
    refine r_look C (tgt := 147) (off := 140) (by decide) (by rw [c24]; rfl) (by decide) dX7_readAtom_7 ?_
    refine r_aload_n C hl (kx := 0) rfl rfl dX7_readAtom_147 ?_
    refine r_iconst C dX7_readAtom_148 ?_
    refine r_iconst C dX7_readAtom_149 ?_
    obtain ⟨r26, μ25, e27, hf⟩ := bn_some hf
    refine r_callVv C hw (K := [(0, 1), (0, 1)]) ok7 t0 (c_X7_addAtom l D b t0 e27) mi_X7_addAtom in_X7_addAtom se_X7_addAtom kl_7_180 rfl rfl (lvh_sz hl) ⟨by simp only [rm]; omega, by simp only [rm]; omega⟩ (Kr := []) rfl (Nat.le_of_ble_eq_true rfl) dX7_readAtom_150 (fun H locs hw => ?_)
    obtain ⟨g28, hf⟩ := gd_some hf
    exact r_zret C hw g28 hf dX7_readAtom_153
  have hf := ite_f c24 hf
  rcases Decidable.em (nrm (μ (x0 + 1) 0) = 132) with c29 | c29
  · have hf := ite_t c29 hf
    refine r_look C (tgt := 154) (off := 147) (by decide) (by rw [c29]; rfl) (by decide) dX7_readAtom_7 ?_
    refine r_aload_n C hl (kx := 0) rfl rfl dX7_readAtom_154 ?_
    refine r_iconst C dX7_readAtom_155 ?_
    refine r_iconst C dX7_readAtom_156 ?_
    obtain ⟨r31, μ30, e32, hf⟩ := bn_some hf
    refine r_callVv C hw (K := [(0, 1), (0, 2)]) ok7 t0 (c_X7_addAtom l D b t0 e32) mi_X7_addAtom in_X7_addAtom se_X7_addAtom kl_7_180 rfl rfl (lvh_sz hl) ⟨by simp only [rm]; omega, by simp only [rm]; omega⟩ (Kr := []) rfl (Nat.le_of_ble_eq_true rfl) dX7_readAtom_157 (fun H locs hw => ?_)
    obtain ⟨g33, hf⟩ := gd_some hf
    exact r_zret C hw g33 hf dX7_readAtom_160
  have hf := ite_f c29 hf
  rcases Decidable.em (nrm (μ (x0 + 1) 0) = 136) with c34 | c34
  · have hf := ite_t c34 hf
    refine r_look C (tgt := 161) (off := 154) (by decide) (by rw [c34]; rfl) (by decide) dX7_readAtom_7 ?_
    refine r_aload_n C hl (kx := 0) rfl rfl dX7_readAtom_161 ?_
    refine r_iconst C dX7_readAtom_162 ?_
    refine r_iconst C dX7_readAtom_163 ?_
    obtain ⟨r36, μ35, e37, hf⟩ := bn_some hf
    refine r_callVv C hw (K := [(0, 1), (0, 3)]) ok7 t0 (c_X7_addAtom l D b t0 e37) mi_X7_addAtom in_X7_addAtom se_X7_addAtom kl_7_180 rfl rfl (lvh_sz hl) ⟨by simp only [rm]; omega, by simp only [rm]; omega⟩ (Kr := []) rfl (Nat.le_of_ble_eq_true rfl) dX7_readAtom_164 (fun H locs hw => ?_)
    obtain ⟨g38, hf⟩ := gd_some hf
    exact r_zret C hw g38 hf dX7_readAtom_167
  have hf := ite_f c34 hf
  rcases Decidable.em (nrm (μ (x0 + 1) 0) = 139) with c39 | c39
  · have hf := ite_t c39 hf
    refine r_look C (tgt := 175) (off := 168) (by decide) (by rw [c39]; rfl) (by decide) dX7_readAtom_7 ?_
    refine r_aload_n C hl (kx := 0) rfl rfl dX7_readAtom_175 ?_
    refine gf_7_138 C hw t0 dX7_readAtom_176 ?_
    refine r_if_eq C (tgt := 191) (by decide) dX7_readAtom_179 (fun c40 => ?_) (fun c40 => ?_)
    · have hf := ite_t c40 hf
      refine r_aload_n C hl (kx := 0) rfl rfl dX7_readAtom_191 ?_
      refine r_iconst C dX7_readAtom_192 ?_
      obtain ⟨r42, μ41, e43, hf⟩ := bn_some hf
      refine r_callVv C hw (K := [(0, 2)]) ok7 t0 (c_X7_refuse l D b t0 e43) mi_X7_refuse in_X7_refuse se_X7_refuse kl_7_51 rfl rfl (lvh_sz hl) ⟨by simp only [rm]; omega, by simp only [rm]; omega⟩ (Kr := []) rfl (Nat.le_of_ble_eq_true rfl) dX7_readAtom_193 (fun H locs hw => ?_)
      obtain ⟨g44, hf⟩ := gd_some hf
      exact r_zret C hw g44 hf dX7_readAtom_196
    · have hf := ite_f c40 hf
      refine r_aload_n C hl (kx := 0) rfl rfl dX7_readAtom_182 ?_
      refine r_iconst C dX7_readAtom_183 ?_
      refine r_iconst C dX7_readAtom_184 ?_
      obtain ⟨r46, μ45, e47, hf⟩ := bn_some hf
      refine r_callVv C hw (K := [(0, 1), (0, 5)]) ok7 t0 (c_X7_addAtom l D b t0 e47) mi_X7_addAtom in_X7_addAtom se_X7_addAtom kl_7_180 rfl rfl (lvh_sz hl) ⟨by simp only [rm]; omega, by simp only [rm]; omega⟩ (Kr := []) rfl (Nat.le_of_ble_eq_true rfl) dX7_readAtom_185 (fun H locs hw => ?_)
      refine r_goto C (tgt := 196) (by decide) dX7_readAtom_188 ?_
      obtain ⟨g48, hf⟩ := gd_some hf
      exact r_zret C hw g48 hf dX7_readAtom_196
  have hf := ite_f c39 hf
  rcases Decidable.em (nrm (μ (x0 + 1) 0) = 140) with c49 | c49
  · have hf := ite_t c49 hf
    refine r_look C (tgt := 168) (off := 161) (by decide) (by rw [c49]; rfl) (by decide) dX7_readAtom_7 ?_
    refine r_aload_n C hl (kx := 0) rfl rfl dX7_readAtom_168 ?_
    refine r_iconst C dX7_readAtom_169 ?_
    refine r_iconst C dX7_readAtom_170 ?_
    obtain ⟨r51, μ50, e52, hf⟩ := bn_some hf
    refine r_callVv C hw (K := [(0, 1), (0, 4)]) ok7 t0 (c_X7_addAtom l D b t0 e52) mi_X7_addAtom in_X7_addAtom se_X7_addAtom kl_7_180 rfl rfl (lvh_sz hl) ⟨by simp only [rm]; omega, by simp only [rm]; omega⟩ (Kr := []) rfl (Nat.le_of_ble_eq_true rfl) dX7_readAtom_171 (fun H locs hw => ?_)
    obtain ⟨g53, hf⟩ := gd_some hf
    exact r_zret C hw g53 hf dX7_readAtom_174
  have hf := ite_f c49 hf
  rcases Decidable.em (nrm (μ (x0 + 1) 0) = 143) with c54 | c54
  · have hf := ite_t c54 hf
    refine r_look C (tgt := 134) (off := 127) (by decide) (by rw [c54]; rfl) (by decide) dX7_readAtom_7 ?_
    refine r_aload_n C hl (kx := 0) rfl rfl dX7_readAtom_134 ?_
    refine r_iload_n C hl (kx := 1) rfl rfl dX7_readAtom_135 ?_
    obtain ⟨r56, μ55, e57, hf⟩ := bn_some hf
    refine r_callVv C hw (K := [(0, x1)]) ok7 t0 (h_2 _ _ _ _ _ t0 e57) mi_X7_readIf in_X7_readIf se_X7_readIf kl_7_184 rfl rfl (lvh_sz hl) ⟨by simp only [rm]; omega, by simp only [rm]; omega⟩ (Kr := []) rfl (Nat.le_of_ble_eq_true rfl) dX7_readAtom_136 (fun H locs hw => ?_)
    obtain ⟨g58, hf⟩ := gd_some hf
    exact r_zret C hw g58 hf dX7_readAtom_139
  have hf := ite_f c54 hf
  refine r_look C (tgt := 197) (off := 190) (by decide) (by refine (look_ne c1).trans ?_; refine (look_ne c6).trans ?_; refine (look_ne c19).trans ?_; refine (look_ne c24).trans ?_; refine (look_ne c29).trans ?_; refine (look_ne c34).trans ?_; refine (look_ne c39).trans ?_; refine (look_ne c49).trans ?_; refine (look_ne c54).trans ?_; rfl) (by decide) dX7_readAtom_7 ?_
  refine r_aload_n C hl (kx := 0) rfl rfl dX7_readAtom_197 ?_
  refine r_iconst C dX7_readAtom_198 ?_
  obtain ⟨r60, μ59, e61, hf⟩ := bn_some hf
  refine r_callVv C hw (K := [(0, 2)]) ok7 t0 (c_X7_refuse l D b t0 e61) mi_X7_refuse in_X7_refuse se_X7_refuse kl_7_51 rfl rfl (lvh_sz hl) ⟨by simp only [rm]; omega, by simp only [rm]; omega⟩ (Kr := []) rfl (Nat.le_of_ble_eq_true rfl) dX7_readAtom_199 (fun H locs hw => ?_)
  obtain ⟨g62, hf⟩ := gd_some hf
  exact r_zret C hw g62 hf dX7_readAtom_202
set_option maxHeartbeats 4000000 in
set_option maxRecDepth 20000 in
theorem w_X7_readBoth_8 (C : Cx p s m args meth c D b cX7_readBoth 4 RX7 (some .boolean)) {r : Int} {μ' : Mem} (rec : Nat → Int → Int → Mem → Option (Int × Mem)) (h_0 : ∀ (x0 x1 : Int) (μ μ' : Mem) (r : Int), isK x0 7 → rec 0 x0 x1 μ = some (r, μ') → Ctr l D b yX7_readAtom cX7_readAtom 2 (some .boolean) (n0 + 2) [(2, x0), (0, x1)] μ (some (.int (jI r))) μ') (h_1 : ∀ (x0 x1 : Int) (μ μ' : Mem) (r : Int), isK x0 7 → rec 1 x0 x1 μ = some (r, μ') → Ctr l D b yX7_readBoth cX7_readBoth 4 (some .boolean) (n0 + 2) [(2, x0), (0, x1)] μ (some (.int (jI r))) μ') (h_2 : ∀ (x0 x1 : Int) (μ μ' : Mem) (r : Int), isK x0 7 → rec 2 x0 x1 μ = some (r, μ') → Ctr l D b yX7_readIf cX7_readIf 3 (some .boolean) (n0 + 2) [(2, x0), (0, x1)] μ (some (.int (jI r))) μ') (h_3 : ∀ (x0 x1 : Int) (μ μ' : Mem) (r : Int), isK x0 7 → rec 3 x0 x1 μ = some (r, μ') → Ctr l D b yX7_readSum cX7_readSum 5 (some .boolean) (n0 + 2) [(2, x0), (0, x1)] μ (some (.int (jI r))) μ') (h_4 : ∀ (x0 x1 : Int) (μ μ' : Mem) (r : Int), isK x0 7 → rec 4 x0 x1 μ = some (r, μ') → Ctr l D b yX7_readTerm cX7_readTerm 4 (some .boolean) (n0 + 2) [(2, x0), (0, x1)] μ (some (.int (jI r))) μ') (h_5 : ∀ (x0 x1 : Int) (μ μ' : Mem) (r : Int), isK x0 7 → rec 5 x0 x1 μ = some (r, μ') → Ctr l D b yX7_readTruth cX7_readTruth 4 (some .boolean) (n0 + 2) [(2, x0), (0, x1)] μ (some (.int (jI r))) μ') (h_6 : ∀ (x0 x1 : Int) (μ μ' : Mem) (r : Int), isK x0 7 → rec 6 x0 x1 μ = some (r, μ') → Ctr l D b yX7_readUnit cX7_readUnit 4 (some .boolean) (n0 + 2) [(2, x0), (0, x1)] μ (some (.int (jI r))) μ') : ∀ (n : Nat) (x0 x1 x2 x3 : Int) (μ : Mem) (H : Heap) (locs : List Loc) (ls : Array Slot), f_X7_readBoth_w8 rec n x0 x1 x2 x3 μ = some (r, μ') → isK x0 7 → Hw D b μ s.heap H locs → lvh b ls 4 [(0, 2, x0), (1, 0, x1), (2, 0, x2), (3, 0, x3)] → W p l e (rm (n0 + 1 + 2)) s m args below meth c H locs 0 0 (QM below args s D b (some (.int (jI r))) μ') (F0 m 8 ls []) := by
  intro n
  induction n with
  | zero => intro x0 x1 x2 x3 μ H locs ls hf; cases hf
  | succ n ih =>
    intro x0 x1 x2 x3 μ H locs ls hf t0 hw hl
    rw [f_X7_readBoth_w8.eq_2] at hf
    refine r_iload_n C hl (kx := 3) rfl rfl dX7_readBoth_8 ?_
    refine r_sipush C (by decide) dX7_readBoth_9 ?_
    refine r_icmp_ge C (tgt := 64) (by decide) dX7_readBoth_12 (fun c1 => ?_) (fun c1 => ?_)
    · have hf := ite_t c1 hf
      refine r_iload_n C hl (kx := 2) rfl rfl dX7_readBoth_64 ?_
      obtain ⟨g2, hf⟩ := gd_some hf
      exact r_zret C hw g2 hf dX7_readBoth_65
    · have hf := ite_f c1 hf
      refine r_iload_n C hl (kx := 2) rfl rfl dX7_readBoth_15 ?_
      refine r_if_eq C (tgt := 64) (by decide) dX7_readBoth_16 (fun c3 => ?_) (fun c3 => ?_)
      · have hf := ite_t c3 hf
        refine r_iload_n C hl (kx := 2) rfl rfl dX7_readBoth_64 ?_
        obtain ⟨g4, hf⟩ := gd_some hf
        exact r_zret C hw g4 hf dX7_readBoth_65
      · have hf := ite_f c3 hf
        refine r_aload_n C hl (kx := 0) rfl rfl dX7_readBoth_19 ?_
        refine gf_7_12 C hw t0 dX7_readBoth_20 ?_
        refine gf_7_42 C hw (ow_7_0 t0) dX7_readBoth_23 ?_
        refine r_sipush C (by decide) dX7_readBoth_26 ?_
        refine r_icmp_ne C (tgt := 64) (by decide) dX7_readBoth_29 (fun c5 => ?_) (fun c5 => ?_)
        · have hf := ite_f c5 hf
          refine r_iload_n C hl (kx := 2) rfl rfl dX7_readBoth_64 ?_
          obtain ⟨g6, hf⟩ := gd_some hf
          exact r_zret C hw g6 hf dX7_readBoth_65
        · have hf := ite_t c5 hf
          refine r_aload_n C hl (kx := 0) rfl rfl dX7_readBoth_32 ?_
          refine gf_7_12 C hw t0 dX7_readBoth_33 ?_
          obtain ⟨r8, μ7, e9, hf⟩ := bn_some hf
          refine r_callVn C hw (K := []) ok9 (ow_7_0 t0) (c_X9_advance l D b (ow_7_0 t0) e9) mi_X9_advance in_X9_advance se_X9_advance kl_7_55 rfl rfl (lvh_sz hl) ⟨by simp only [rm]; omega, by simp only [rm]; omega⟩ (Kr := []) rfl (Nat.le_of_ble_eq_true rfl) dX7_readBoth_36 (fun H locs hw => ?_)
          refine r_aload_n C hl (kx := 0) rfl rfl dX7_readBoth_39 ?_
          refine r_iload_n C hl (kx := 1) rfl rfl dX7_readBoth_40 ?_
          obtain ⟨r11, μ10, e12, hf⟩ := bn_some hf
          refine r_callVv C hw (K := [(0, x1)]) ok7 t0 (h_6 _ _ _ _ _ t0 e12) mi_X7_readUnit in_X7_readUnit se_X7_readUnit kl_7_168 rfl rfl (lvh_sz hl) ⟨by simp only [rm]; omega, by simp only [rm]; omega⟩ (Kr := []) rfl (Nat.le_of_ble_eq_true rfl) dX7_readBoth_41 (fun H locs hw => ?_)
          refine r_istore_n C hl (by decide) (L' := [(2, 0, r11), (0, 2, x0), (1, 0, x1), (3, 0, x3)]) rfl rfl dX7_readBoth_44 (fun ls hl => ?_)
          refine r_aload_n C hl (kx := 1) rfl rfl dX7_readBoth_45 ?_
          refine gf_7_25 C hw t0 dX7_readBoth_46 ?_
          obtain ⟨g13, hf⟩ := gd_some hf
          refine gf_7_142 C hw g13 dX7_readBoth_49 ?_
          refine r_bipush C (by decide) dX7_readBoth_52 ?_
          refine r_iconst C dX7_readBoth_54 ?_
          obtain ⟨r15, μ14, e16, hf⟩ := bn_some hf
          refine r_callVn C hw (K := [(0, 9), (0, 0)]) ok4 (ow_3_14 g13) (c_X4_addStep l D b (ow_3_14 g13) e16) mi_X4_addStep in_X4_addStep se_X4_addStep kl_7_165 rfl rfl (lvh_sz hl) ⟨by simp only [rm]; omega, by simp only [rm]; omega⟩ (Kr := []) rfl (Nat.le_of_ble_eq_true rfl) dX7_readBoth_55 (fun H locs hw => ?_)
          refine r_iinc C hl (kx := 3) rfl (by decide) (L' := [(3, 0, (x3 + 1)), (2, 0, r11), (0, 2, x0), (1, 0, x1)]) rfl dX7_readBoth_58 (fun ls hl => ?_)
          refine r_goto C (tgt := 8) (by decide) dX7_readBoth_61 ?_
          exact ih _ _ _ _ _ _ _ _ hf t0 hw (lvh_sub hl [2, 3, 1, 0] rfl)
set_option maxHeartbeats 4000000 in
set_option maxRecDepth 20000 in
theorem w_X7_readBoth_0 (C : Cx p s m args meth c D b cX7_readBoth 4 RX7 (some .boolean)) {r : Int} {μ' : Mem} (rec : Nat → Int → Int → Mem → Option (Int × Mem)) (h_0 : ∀ (x0 x1 : Int) (μ μ' : Mem) (r : Int), isK x0 7 → rec 0 x0 x1 μ = some (r, μ') → Ctr l D b yX7_readAtom cX7_readAtom 2 (some .boolean) (n0 + 2) [(2, x0), (0, x1)] μ (some (.int (jI r))) μ') (h_1 : ∀ (x0 x1 : Int) (μ μ' : Mem) (r : Int), isK x0 7 → rec 1 x0 x1 μ = some (r, μ') → Ctr l D b yX7_readBoth cX7_readBoth 4 (some .boolean) (n0 + 2) [(2, x0), (0, x1)] μ (some (.int (jI r))) μ') (h_2 : ∀ (x0 x1 : Int) (μ μ' : Mem) (r : Int), isK x0 7 → rec 2 x0 x1 μ = some (r, μ') → Ctr l D b yX7_readIf cX7_readIf 3 (some .boolean) (n0 + 2) [(2, x0), (0, x1)] μ (some (.int (jI r))) μ') (h_3 : ∀ (x0 x1 : Int) (μ μ' : Mem) (r : Int), isK x0 7 → rec 3 x0 x1 μ = some (r, μ') → Ctr l D b yX7_readSum cX7_readSum 5 (some .boolean) (n0 + 2) [(2, x0), (0, x1)] μ (some (.int (jI r))) μ') (h_4 : ∀ (x0 x1 : Int) (μ μ' : Mem) (r : Int), isK x0 7 → rec 4 x0 x1 μ = some (r, μ') → Ctr l D b yX7_readTerm cX7_readTerm 4 (some .boolean) (n0 + 2) [(2, x0), (0, x1)] μ (some (.int (jI r))) μ') (h_5 : ∀ (x0 x1 : Int) (μ μ' : Mem) (r : Int), isK x0 7 → rec 5 x0 x1 μ = some (r, μ') → Ctr l D b yX7_readTruth cX7_readTruth 4 (some .boolean) (n0 + 2) [(2, x0), (0, x1)] μ (some (.int (jI r))) μ') (h_6 : ∀ (x0 x1 : Int) (μ μ' : Mem) (r : Int), isK x0 7 → rec 6 x0 x1 μ = some (r, μ') → Ctr l D b yX7_readUnit cX7_readUnit 4 (some .boolean) (n0 + 2) [(2, x0), (0, x1)] μ (some (.int (jI r))) μ') {x0 x1 : Int} {μ : Mem} {H : Heap} {locs : List Loc} {ls : Array Slot} (hf : b_X7_readBoth rec x0 x1 μ = some (r, μ')) (t0 : isK x0 7) (hw : Hw D b μ s.heap H locs) (hl : lvh b ls 4 [(0, 2, x0), (1, 0, x1)]) : W p l e (rm (n0 + 1 + 2)) s m args below meth c H locs 0 0 (QM below args s D b (some (.int (jI r))) μ') (F0 m 0 ls []) := by
  unfold b_X7_readBoth at hf
  refine r_aload_n C hl (kx := 0) rfl rfl dX7_readBoth_0 ?_
  refine r_iload_n C hl (kx := 1) rfl rfl dX7_readBoth_1 ?_
  obtain ⟨r2, μ1, e3, hf⟩ := bn_some hf
  refine r_callVv C hw (K := [(0, x1)]) ok7 t0 (h_6 _ _ _ _ _ t0 e3) mi_X7_readUnit in_X7_readUnit se_X7_readUnit kl_7_168 rfl rfl (lvh_sz hl) ⟨by simp only [rm]; omega, by simp only [rm]; omega⟩ (Kr := []) rfl (Nat.le_of_ble_eq_true rfl) dX7_readBoth_2 (fun H locs hw => ?_)
  refine r_istore_n C hl (by decide) (L' := [(2, 0, r2), (0, 2, x0), (1, 0, x1)]) rfl rfl dX7_readBoth_5 (fun ls hl => ?_)
  refine r_iconst C dX7_readBoth_6 ?_
  refine r_istore_n C hl (by decide) (L' := [(3, 0, 0), (2, 0, r2), (0, 2, x0), (1, 0, x1)]) rfl rfl dX7_readBoth_7 (fun ls hl => ?_)
  exact w_X7_readBoth_8 C _ h_0 h_1 h_2 h_3 h_4 h_5 h_6 FU _ _ _ _ _ _ _ _ hf t0 hw (lvh_sub hl [2, 3, 1, 0] rfl)
set_option maxHeartbeats 4000000 in
set_option maxRecDepth 20000 in
theorem w_X7_readIf_73 (C : Cx p s m args meth c D b cX7_readIf 3 RX7 (some .boolean)) {r : Int} {μ' : Mem} (rec : Nat → Int → Int → Mem → Option (Int × Mem)) (h_0 : ∀ (x0 x1 : Int) (μ μ' : Mem) (r : Int), isK x0 7 → rec 0 x0 x1 μ = some (r, μ') → Ctr l D b yX7_readAtom cX7_readAtom 2 (some .boolean) (n0 + 2) [(2, x0), (0, x1)] μ (some (.int (jI r))) μ') (h_1 : ∀ (x0 x1 : Int) (μ μ' : Mem) (r : Int), isK x0 7 → rec 1 x0 x1 μ = some (r, μ') → Ctr l D b yX7_readBoth cX7_readBoth 4 (some .boolean) (n0 + 2) [(2, x0), (0, x1)] μ (some (.int (jI r))) μ') (h_2 : ∀ (x0 x1 : Int) (μ μ' : Mem) (r : Int), isK x0 7 → rec 2 x0 x1 μ = some (r, μ') → Ctr l D b yX7_readIf cX7_readIf 3 (some .boolean) (n0 + 2) [(2, x0), (0, x1)] μ (some (.int (jI r))) μ') (h_3 : ∀ (x0 x1 : Int) (μ μ' : Mem) (r : Int), isK x0 7 → rec 3 x0 x1 μ = some (r, μ') → Ctr l D b yX7_readSum cX7_readSum 5 (some .boolean) (n0 + 2) [(2, x0), (0, x1)] μ (some (.int (jI r))) μ') (h_4 : ∀ (x0 x1 : Int) (μ μ' : Mem) (r : Int), isK x0 7 → rec 4 x0 x1 μ = some (r, μ') → Ctr l D b yX7_readTerm cX7_readTerm 4 (some .boolean) (n0 + 2) [(2, x0), (0, x1)] μ (some (.int (jI r))) μ') (h_5 : ∀ (x0 x1 : Int) (μ μ' : Mem) (r : Int), isK x0 7 → rec 5 x0 x1 μ = some (r, μ') → Ctr l D b yX7_readTruth cX7_readTruth 4 (some .boolean) (n0 + 2) [(2, x0), (0, x1)] μ (some (.int (jI r))) μ') (h_6 : ∀ (x0 x1 : Int) (μ μ' : Mem) (r : Int), isK x0 7 → rec 6 x0 x1 μ = some (r, μ') → Ctr l D b yX7_readUnit cX7_readUnit 4 (some .boolean) (n0 + 2) [(2, x0), (0, x1)] μ (some (.int (jI r))) μ') {x0 s0 : Int} {μ : Mem} {H : Heap} {locs : List Loc} {ls : Array Slot} (hf : f_X7_readIf_j73 rec x0 s0 μ = some (r, μ')) (t0 : isK x0 7) (hw : Hw D b μ s.heap H locs) (hl : lvh b ls 3 [(0, 2, x0)]) : W p l e (rm (n0 + 1 + 2)) s m args below meth c H locs 0 0 (QM below args s D b (some (.int (jI r))) μ') (F0 m 73 ls [.int (jI s0)]) := by
  unfold f_X7_readIf_j73 at hf
  refine r_istore_n C hl (by decide) (L' := [(2, 0, s0), (0, 2, x0)]) rfl rfl dX7_readIf_73 (fun ls hl => ?_)
  refine r_aload_n C hl (kx := 1) rfl rfl dX7_readIf_74 ?_
  refine gf_7_25 C hw t0 dX7_readIf_75 ?_
  obtain ⟨g1, hf⟩ := gd_some hf
  refine gf_7_142 C hw g1 dX7_readIf_78 ?_
  refine r_bipush C (by decide) dX7_readIf_81 ?_
  refine r_iconst C dX7_readIf_83 ?_
  obtain ⟨r3, μ2, e4, hf⟩ := bn_some hf
  refine r_callVn C hw (K := [(0, 11), (0, 0)]) ok4 (ow_3_14 g1) (c_X4_addStep l D b (ow_3_14 g1) e4) mi_X4_addStep in_X4_addStep se_X4_addStep kl_7_165 rfl rfl (lvh_sz hl) ⟨by simp only [rm]; omega, by simp only [rm]; omega⟩ (Kr := []) rfl (Nat.le_of_ble_eq_true rfl) dX7_readIf_84 (fun H locs hw => ?_)
  refine r_iload_n C hl (kx := 0) rfl rfl dX7_readIf_87 ?_
  obtain ⟨g5, hf⟩ := gd_some hf
  exact r_zret C hw g5 hf dX7_readIf_88
set_option maxHeartbeats 4000000 in
set_option maxRecDepth 20000 in
theorem w_X7_readIf_72 (C : Cx p s m args meth c D b cX7_readIf 3 RX7 (some .boolean)) {r : Int} {μ' : Mem} (rec : Nat → Int → Int → Mem → Option (Int × Mem)) (h_0 : ∀ (x0 x1 : Int) (μ μ' : Mem) (r : Int), isK x0 7 → rec 0 x0 x1 μ = some (r, μ') → Ctr l D b yX7_readAtom cX7_readAtom 2 (some .boolean) (n0 + 2) [(2, x0), (0, x1)] μ (some (.int (jI r))) μ') (h_1 : ∀ (x0 x1 : Int) (μ μ' : Mem) (r : Int), isK x0 7 → rec 1 x0 x1 μ = some (r, μ') → Ctr l D b yX7_readBoth cX7_readBoth 4 (some .boolean) (n0 + 2) [(2, x0), (0, x1)] μ (some (.int (jI r))) μ') (h_2 : ∀ (x0 x1 : Int) (μ μ' : Mem) (r : Int), isK x0 7 → rec 2 x0 x1 μ = some (r, μ') → Ctr l D b yX7_readIf cX7_readIf 3 (some .boolean) (n0 + 2) [(2, x0), (0, x1)] μ (some (.int (jI r))) μ') (h_3 : ∀ (x0 x1 : Int) (μ μ' : Mem) (r : Int), isK x0 7 → rec 3 x0 x1 μ = some (r, μ') → Ctr l D b yX7_readSum cX7_readSum 5 (some .boolean) (n0 + 2) [(2, x0), (0, x1)] μ (some (.int (jI r))) μ') (h_4 : ∀ (x0 x1 : Int) (μ μ' : Mem) (r : Int), isK x0 7 → rec 4 x0 x1 μ = some (r, μ') → Ctr l D b yX7_readTerm cX7_readTerm 4 (some .boolean) (n0 + 2) [(2, x0), (0, x1)] μ (some (.int (jI r))) μ') (h_5 : ∀ (x0 x1 : Int) (μ μ' : Mem) (r : Int), isK x0 7 → rec 5 x0 x1 μ = some (r, μ') → Ctr l D b yX7_readTruth cX7_readTruth 4 (some .boolean) (n0 + 2) [(2, x0), (0, x1)] μ (some (.int (jI r))) μ') (h_6 : ∀ (x0 x1 : Int) (μ μ' : Mem) (r : Int), isK x0 7 → rec 6 x0 x1 μ = some (r, μ') → Ctr l D b yX7_readUnit cX7_readUnit 4 (some .boolean) (n0 + 2) [(2, x0), (0, x1)] μ (some (.int (jI r))) μ') {x0 : Int} {μ : Mem} {H : Heap} {locs : List Loc} {ls : Array Slot} (hf : f_X7_readIf_j72 rec x0 μ = some (r, μ')) (t0 : isK x0 7) (hw : Hw D b μ s.heap H locs) (hl : lvh b ls 3 [(0, 2, x0)]) : W p l e (rm (n0 + 1 + 2)) s m args below meth c H locs 0 0 (QM below args s D b (some (.int (jI r))) μ') (F0 m 72 ls []) := by
  unfold f_X7_readIf_j72 at hf
  refine r_iconst C dX7_readIf_72 ?_
  exact w_X7_readIf_73 C _ h_0 h_1 h_2 h_3 h_4 h_5 h_6 hf t0 hw (lvh_sub hl [0] rfl)
set_option maxHeartbeats 4000000 in
set_option maxRecDepth 20000 in
theorem w_X7_readIf_0 (C : Cx p s m args meth c D b cX7_readIf 3 RX7 (some .boolean)) {r : Int} {μ' : Mem} (rec : Nat → Int → Int → Mem → Option (Int × Mem)) (h_0 : ∀ (x0 x1 : Int) (μ μ' : Mem) (r : Int), isK x0 7 → rec 0 x0 x1 μ = some (r, μ') → Ctr l D b yX7_readAtom cX7_readAtom 2 (some .boolean) (n0 + 2) [(2, x0), (0, x1)] μ (some (.int (jI r))) μ') (h_1 : ∀ (x0 x1 : Int) (μ μ' : Mem) (r : Int), isK x0 7 → rec 1 x0 x1 μ = some (r, μ') → Ctr l D b yX7_readBoth cX7_readBoth 4 (some .boolean) (n0 + 2) [(2, x0), (0, x1)] μ (some (.int (jI r))) μ') (h_2 : ∀ (x0 x1 : Int) (μ μ' : Mem) (r : Int), isK x0 7 → rec 2 x0 x1 μ = some (r, μ') → Ctr l D b yX7_readIf cX7_readIf 3 (some .boolean) (n0 + 2) [(2, x0), (0, x1)] μ (some (.int (jI r))) μ') (h_3 : ∀ (x0 x1 : Int) (μ μ' : Mem) (r : Int), isK x0 7 → rec 3 x0 x1 μ = some (r, μ') → Ctr l D b yX7_readSum cX7_readSum 5 (some .boolean) (n0 + 2) [(2, x0), (0, x1)] μ (some (.int (jI r))) μ') (h_4 : ∀ (x0 x1 : Int) (μ μ' : Mem) (r : Int), isK x0 7 → rec 4 x0 x1 μ = some (r, μ') → Ctr l D b yX7_readTerm cX7_readTerm 4 (some .boolean) (n0 + 2) [(2, x0), (0, x1)] μ (some (.int (jI r))) μ') (h_5 : ∀ (x0 x1 : Int) (μ μ' : Mem) (r : Int), isK x0 7 → rec 5 x0 x1 μ = some (r, μ') → Ctr l D b yX7_readTruth cX7_readTruth 4 (some .boolean) (n0 + 2) [(2, x0), (0, x1)] μ (some (.int (jI r))) μ') (h_6 : ∀ (x0 x1 : Int) (μ μ' : Mem) (r : Int), isK x0 7 → rec 6 x0 x1 μ = some (r, μ') → Ctr l D b yX7_readUnit cX7_readUnit 4 (some .boolean) (n0 + 2) [(2, x0), (0, x1)] μ (some (.int (jI r))) μ') {x0 x1 : Int} {μ : Mem} {H : Heap} {locs : List Loc} {ls : Array Slot} (hf : b_X7_readIf rec x0 x1 μ = some (r, μ')) (t0 : isK x0 7) (hw : Hw D b μ s.heap H locs) (hl : lvh b ls 3 [(0, 2, x0), (1, 0, x1)]) : W p l e (rm (n0 + 1 + 2)) s m args below meth c H locs 0 0 (QM below args s D b (some (.int (jI r))) μ') (F0 m 0 ls []) := by
  unfold b_X7_readIf at hf
  refine r_aload_n C hl (kx := 0) rfl rfl dX7_readIf_0 ?_
  refine r_iload_n C hl (kx := 1) rfl rfl dX7_readIf_1 ?_
  obtain ⟨r2, μ1, e3, hf⟩ := bn_some hf
  refine r_callVv C hw (K := [(0, x1)]) ok7 t0 (c_X7_takeOpening l D b t0 e3) mi_X7_takeOpening in_X7_takeOpening se_X7_takeOpening kl_7_171 rfl rfl (lvh_sz hl) ⟨by simp only [rm]; omega, by simp only [rm]; omega⟩ (Kr := []) rfl (Nat.le_of_ble_eq_true rfl) dX7_readIf_2 (fun H locs hw => ?_)
  refine r_if_eq C (tgt := 72) (by decide) dX7_readIf_5 (fun c4 => ?_) (fun c4 => ?_)
  · have hf := ite_t c4 hf
    exact w_X7_readIf_72 C _ h_0 h_1 h_2 h_3 h_4 h_5 h_6 hf t0 hw (lvh_sub hl [0] rfl)
  · have hf := ite_f c4 hf
    refine r_aload_n C hl (kx := 0) rfl rfl dX7_readIf_8 ?_
    refine r_iload_n C hl (kx := 1) rfl rfl dX7_readIf_9 ?_
    refine r_iconst C dX7_readIf_10 ?_
    refine r_iadd C dX7_readIf_11 ?_
    obtain ⟨r6, μ5, e7, hf⟩ := bn_some hf
    refine r_callVv C hw (K := [(0, (x1 + 1))]) ok7 t0 (h_5 _ _ _ _ _ t0 e7) mi_X7_readTruth in_X7_readTruth se_X7_readTruth kl_7_159 rfl rfl (lvh_sz hl) ⟨by simp only [rm]; omega, by simp only [rm]; omega⟩ (Kr := []) rfl (Nat.le_of_ble_eq_true rfl) dX7_readIf_12 (fun H locs hw => ?_)
    refine r_if_eq C (tgt := 72) (by decide) dX7_readIf_15 (fun c8 => ?_) (fun c8 => ?_)
    · have hf := ite_t c8 hf
      exact w_X7_readIf_72 C _ h_0 h_1 h_2 h_3 h_4 h_5 h_6 hf t0 hw (lvh_sub hl [0] rfl)
    · have hf := ite_f c8 hf
      refine r_aload_n C hl (kx := 0) rfl rfl dX7_readIf_18 ?_
      refine r_sipush C (by decide) dX7_readIf_19 ?_
      obtain ⟨r10, μ9, e11, hf⟩ := bn_some hf
      refine r_callVv C hw (K := [(0, 144)]) ok7 t0 (c_X7_take l D b t0 e11) mi_X7_take in_X7_take se_X7_take kl_7_64 rfl rfl (lvh_sz hl) ⟨by simp only [rm]; omega, by simp only [rm]; omega⟩ (Kr := []) rfl (Nat.le_of_ble_eq_true rfl) dX7_readIf_22 (fun H locs hw => ?_)
      refine r_if_eq C (tgt := 72) (by decide) dX7_readIf_25 (fun c12 => ?_) (fun c12 => ?_)
      · have hf := ite_t c12 hf
        exact w_X7_readIf_72 C _ h_0 h_1 h_2 h_3 h_4 h_5 h_6 hf t0 hw (lvh_sub hl [0] rfl)
      · have hf := ite_f c12 hf
        refine r_aload_n C hl (kx := 0) rfl rfl dX7_readIf_28 ?_
        refine r_iload_n C hl (kx := 1) rfl rfl dX7_readIf_29 ?_
        refine r_iconst C dX7_readIf_30 ?_
        refine r_iadd C dX7_readIf_31 ?_
        obtain ⟨r14, μ13, e15, hf⟩ := bn_some hf
        refine r_callVv C hw (K := [(0, (x1 + 1))]) ok7 t0 (h_3 _ _ _ _ _ t0 e15) mi_X7_readSum in_X7_readSum se_X7_readSum kl_7_152 rfl rfl (lvh_sz hl) ⟨by simp only [rm]; omega, by simp only [rm]; omega⟩ (Kr := []) rfl (Nat.le_of_ble_eq_true rfl) dX7_readIf_32 (fun H locs hw => ?_)
        refine r_if_eq C (tgt := 72) (by decide) dX7_readIf_35 (fun c16 => ?_) (fun c16 => ?_)
        · have hf := ite_t c16 hf
          exact w_X7_readIf_72 C _ h_0 h_1 h_2 h_3 h_4 h_5 h_6 hf t0 hw (lvh_sub hl [0] rfl)
        · have hf := ite_f c16 hf
          refine r_aload_n C hl (kx := 0) rfl rfl dX7_readIf_38 ?_
          refine r_sipush C (by decide) dX7_readIf_39 ?_
          obtain ⟨r18, μ17, e19, hf⟩ := bn_some hf
          refine r_callVv C hw (K := [(0, 145)]) ok7 t0 (c_X7_take l D b t0 e19) mi_X7_take in_X7_take se_X7_take kl_7_64 rfl rfl (lvh_sz hl) ⟨by simp only [rm]; omega, by simp only [rm]; omega⟩ (Kr := []) rfl (Nat.le_of_ble_eq_true rfl) dX7_readIf_42 (fun H locs hw => ?_)
          refine r_if_eq C (tgt := 72) (by decide) dX7_readIf_45 (fun c20 => ?_) (fun c20 => ?_)
          · have hf := ite_t c20 hf
            exact w_X7_readIf_72 C _ h_0 h_1 h_2 h_3 h_4 h_5 h_6 hf t0 hw (lvh_sub hl [0] rfl)
          · have hf := ite_f c20 hf
            refine r_aload_n C hl (kx := 0) rfl rfl dX7_readIf_48 ?_
            refine r_iload_n C hl (kx := 1) rfl rfl dX7_readIf_49 ?_
            refine r_iconst C dX7_readIf_50 ?_
            refine r_iadd C dX7_readIf_51 ?_
            obtain ⟨r22, μ21, e23, hf⟩ := bn_some hf
            refine r_callVv C hw (K := [(0, (x1 + 1))]) ok7 t0 (h_3 _ _ _ _ _ t0 e23) mi_X7_readSum in_X7_readSum se_X7_readSum kl_7_152 rfl rfl (lvh_sz hl) ⟨by simp only [rm]; omega, by simp only [rm]; omega⟩ (Kr := []) rfl (Nat.le_of_ble_eq_true rfl) dX7_readIf_52 (fun H locs hw => ?_)
            refine r_if_eq C (tgt := 72) (by decide) dX7_readIf_55 (fun c24 => ?_) (fun c24 => ?_)
            · have hf := ite_t c24 hf
              exact w_X7_readIf_72 C _ h_0 h_1 h_2 h_3 h_4 h_5 h_6 hf t0 hw (lvh_sub hl [0] rfl)
            · have hf := ite_f c24 hf
              refine r_aload_n C hl (kx := 0) rfl rfl dX7_readIf_58 ?_
              refine r_sipush C (by decide) dX7_readIf_59 ?_
              obtain ⟨r26, μ25, e27, hf⟩ := bn_some hf
              refine r_callVv C hw (K := [(0, 146)]) ok7 t0 (c_X7_take l D b t0 e27) mi_X7_take in_X7_take se_X7_take kl_7_64 rfl rfl (lvh_sz hl) ⟨by simp only [rm]; omega, by simp only [rm]; omega⟩ (Kr := []) rfl (Nat.le_of_ble_eq_true rfl) dX7_readIf_62 (fun H locs hw => ?_)
              refine r_if_eq C (tgt := 72) (by decide) dX7_readIf_65 (fun c28 => ?_) (fun c28 => ?_)
              · have hf := ite_t c28 hf
                exact w_X7_readIf_72 C _ h_0 h_1 h_2 h_3 h_4 h_5 h_6 hf t0 hw (lvh_sub hl [0] rfl)
              · have hf := ite_f c28 hf
                refine r_iconst C dX7_readIf_68 ?_
                refine r_goto C (tgt := 73) (by decide) dX7_readIf_69 ?_
                exact w_X7_readIf_73 C _ h_0 h_1 h_2 h_3 h_4 h_5 h_6 hf t0 hw (lvh_sub hl [0] rfl)
set_option maxHeartbeats 4000000 in
set_option maxRecDepth 20000 in
theorem w_X7_readSum_84 (C : Cx p s m args meth c D b cX7_readSum 5 RX7 (some .boolean)) {r : Int} {μ' : Mem} (rec : Nat → Int → Int → Mem → Option (Int × Mem)) (h_0 : ∀ (x0 x1 : Int) (μ μ' : Mem) (r : Int), isK x0 7 → rec 0 x0 x1 μ = some (r, μ') → Ctr l D b yX7_readAtom cX7_readAtom 2 (some .boolean) (n0 + 2) [(2, x0), (0, x1)] μ (some (.int (jI r))) μ') (h_1 : ∀ (x0 x1 : Int) (μ μ' : Mem) (r : Int), isK x0 7 → rec 1 x0 x1 μ = some (r, μ') → Ctr l D b yX7_readBoth cX7_readBoth 4 (some .boolean) (n0 + 2) [(2, x0), (0, x1)] μ (some (.int (jI r))) μ') (h_2 : ∀ (x0 x1 : Int) (μ μ' : Mem) (r : Int), isK x0 7 → rec 2 x0 x1 μ = some (r, μ') → Ctr l D b yX7_readIf cX7_readIf 3 (some .boolean) (n0 + 2) [(2, x0), (0, x1)] μ (some (.int (jI r))) μ') (h_3 : ∀ (x0 x1 : Int) (μ μ' : Mem) (r : Int), isK x0 7 → rec 3 x0 x1 μ = some (r, μ') → Ctr l D b yX7_readSum cX7_readSum 5 (some .boolean) (n0 + 2) [(2, x0), (0, x1)] μ (some (.int (jI r))) μ') (h_4 : ∀ (x0 x1 : Int) (μ μ' : Mem) (r : Int), isK x0 7 → rec 4 x0 x1 μ = some (r, μ') → Ctr l D b yX7_readTerm cX7_readTerm 4 (some .boolean) (n0 + 2) [(2, x0), (0, x1)] μ (some (.int (jI r))) μ') (h_5 : ∀ (x0 x1 : Int) (μ μ' : Mem) (r : Int), isK x0 7 → rec 5 x0 x1 μ = some (r, μ') → Ctr l D b yX7_readTruth cX7_readTruth 4 (some .boolean) (n0 + 2) [(2, x0), (0, x1)] μ (some (.int (jI r))) μ') (h_6 : ∀ (x0 x1 : Int) (μ μ' : Mem) (r : Int), isK x0 7 → rec 6 x0 x1 μ = some (r, μ') → Ctr l D b yX7_readUnit cX7_readUnit 4 (some .boolean) (n0 + 2) [(2, x0), (0, x1)] μ (some (.int (jI r))) μ') (k8 : Int → Int → Int → Int → Mem → Option (Int × Mem)) (h8 : ∀ (x0 x1 x2 x3 : Int) (μ : Mem) (H : Heap) (locs : List Loc) (ls : Array Slot), k8 x0 x1 x2 x3 μ = some (r, μ') → isK x0 7 → Hw D b μ s.heap H locs → lvh b ls 5 [(0, 2, x0), (1, 0, x1), (2, 0, x2), (3, 0, x3)] → W p l e (rm (n0 + 1 + 2)) s m args below meth c H locs 0 0 (QM below args s D b (some (.int (jI r))) μ') (F0 m 8 ls [])) {x0 x1 x2 x3 s0 s1 : Int} {μ : Mem} {H : Heap} {locs : List Loc} {ls : Array Slot} (hf : f_X7_readSum_j84 rec k8 x0 x1 x2 x3 s0 s1 μ = some (r, μ')) (t0 : isK x0 7) (hw : Hw D b μ s.heap H locs) (hl : lvh b ls 5 [(0, 2, x0), (1, 0, x1), (2, 0, x2), (3, 0, x3)]) : W p l e (rm (n0 + 1 + 2)) s m args below meth c H locs 0 0 (QM below args s D b (some (.int (jI r))) μ') (F0 m 84 ls [.int (jI s1), rfv b s0]) := by
  unfold f_X7_readSum_j84 at hf
  refine r_iconst C dX7_readSum_84 ?_
  obtain ⟨g1, hf⟩ := gd_some hf
  obtain ⟨r3, μ2, e4, hf⟩ := bn_some hf
  refine r_callVn C hw (K := [(0, s1), (0, 0)]) ok4 g1 (c_X4_addStep l D b g1 e4) mi_X4_addStep in_X4_addStep se_X4_addStep kl_7_165 rfl rfl (lvh_sz hl) ⟨by simp only [rm]; omega, by simp only [rm]; omega⟩ (Kr := []) rfl (Nat.le_of_ble_eq_true rfl) dX7_readSum_85 (fun H locs hw => ?_)
  refine r_iinc C hl (kx := 3) rfl (by decide) (L' := [(3, 0, (x3 + 1)), (0, 2, x0), (1, 0, x1), (2, 0, x2)]) rfl dX7_readSum_88 (fun ls hl => ?_)
  refine r_goto C (tgt := 8) (by decide) dX7_readSum_91 ?_
  exact h8 _ _ _ _ _ _ _ _ hf t0 hw (lvh_sub hl [1, 2, 3, 0] rfl)
set_option maxHeartbeats 4000000 in
set_option maxRecDepth 20000 in
theorem w_X7_readSum_43 (C : Cx p s m args meth c D b cX7_readSum 5 RX7 (some .boolean)) {r : Int} {μ' : Mem} (rec : Nat → Int → Int → Mem → Option (Int × Mem)) (h_0 : ∀ (x0 x1 : Int) (μ μ' : Mem) (r : Int), isK x0 7 → rec 0 x0 x1 μ = some (r, μ') → Ctr l D b yX7_readAtom cX7_readAtom 2 (some .boolean) (n0 + 2) [(2, x0), (0, x1)] μ (some (.int (jI r))) μ') (h_1 : ∀ (x0 x1 : Int) (μ μ' : Mem) (r : Int), isK x0 7 → rec 1 x0 x1 μ = some (r, μ') → Ctr l D b yX7_readBoth cX7_readBoth 4 (some .boolean) (n0 + 2) [(2, x0), (0, x1)] μ (some (.int (jI r))) μ') (h_2 : ∀ (x0 x1 : Int) (μ μ' : Mem) (r : Int), isK x0 7 → rec 2 x0 x1 μ = some (r, μ') → Ctr l D b yX7_readIf cX7_readIf 3 (some .boolean) (n0 + 2) [(2, x0), (0, x1)] μ (some (.int (jI r))) μ') (h_3 : ∀ (x0 x1 : Int) (μ μ' : Mem) (r : Int), isK x0 7 → rec 3 x0 x1 μ = some (r, μ') → Ctr l D b yX7_readSum cX7_readSum 5 (some .boolean) (n0 + 2) [(2, x0), (0, x1)] μ (some (.int (jI r))) μ') (h_4 : ∀ (x0 x1 : Int) (μ μ' : Mem) (r : Int), isK x0 7 → rec 4 x0 x1 μ = some (r, μ') → Ctr l D b yX7_readTerm cX7_readTerm 4 (some .boolean) (n0 + 2) [(2, x0), (0, x1)] μ (some (.int (jI r))) μ') (h_5 : ∀ (x0 x1 : Int) (μ μ' : Mem) (r : Int), isK x0 7 → rec 5 x0 x1 μ = some (r, μ') → Ctr l D b yX7_readTruth cX7_readTruth 4 (some .boolean) (n0 + 2) [(2, x0), (0, x1)] μ (some (.int (jI r))) μ') (h_6 : ∀ (x0 x1 : Int) (μ μ' : Mem) (r : Int), isK x0 7 → rec 6 x0 x1 μ = some (r, μ') → Ctr l D b yX7_readUnit cX7_readUnit 4 (some .boolean) (n0 + 2) [(2, x0), (0, x1)] μ (some (.int (jI r))) μ') (k8 : Int → Int → Int → Int → Mem → Option (Int × Mem)) (h8 : ∀ (x0 x1 x2 x3 : Int) (μ : Mem) (H : Heap) (locs : List Loc) (ls : Array Slot), k8 x0 x1 x2 x3 μ = some (r, μ') → isK x0 7 → Hw D b μ s.heap H locs → lvh b ls 5 [(0, 2, x0), (1, 0, x1), (2, 0, x2), (3, 0, x3)] → W p l e (rm (n0 + 1 + 2)) s m args below meth c H locs 0 0 (QM below args s D b (some (.int (jI r))) μ') (F0 m 8 ls [])) {x0 x1 x3 : Int} {μ : Mem} {H : Heap} {locs : List Loc} {ls : Array Slot} (hf : f_X7_readSum_j43 rec k8 x0 x1 x3 μ = some (r, μ')) (t0 : isK x0 7) (hw : Hw D b μ s.heap H locs) (hl : lvh b ls 5 [(0, 2, x0), (1, 0, x1), (3, 0, x3)]) : W p l e (rm (n0 + 1 + 2)) s m args below meth c H locs 0 0 (QM below args s D b (some (.int (jI r))) μ') (F0 m 43 ls []) := by
  unfold f_X7_readSum_j43 at hf
  refine r_aload_n C hl (kx := 0) rfl rfl dX7_readSum_43 ?_
  refine gf_7_12 C hw t0 dX7_readSum_44 ?_
  refine gf_7_42 C hw (ow_7_0 t0) dX7_readSum_47 ?_
  obtain ⟨v1, e2, hf⟩ := nm_some hf
  refine top_i e2 ?_
  refine r_istore C hl (by decide) (L' := [(4, 0, v1), (0, 2, x0), (1, 0, x1), (3, 0, x3)]) rfl dX7_readSum_50 (fun ls hl => ?_)
  refine r_aload_n C hl (kx := 1) rfl rfl dX7_readSum_52 ?_
  refine gf_7_12 C hw t0 dX7_readSum_53 ?_
  obtain ⟨r4, μ3, e5, hf⟩ := bn_some hf
  refine r_callVn C hw (K := []) ok9 (ow_7_0 t0) (c_X9_advance l D b (ow_7_0 t0) e5) mi_X9_advance in_X9_advance se_X9_advance kl_7_55 rfl rfl (lvh_sz hl) ⟨by simp only [rm]; omega, by simp only [rm]; omega⟩ (Kr := []) rfl (Nat.le_of_ble_eq_true rfl) dX7_readSum_56 (fun H locs hw => ?_)
  refine r_aload_n C hl (kx := 1) rfl rfl dX7_readSum_59 ?_
  refine r_iload_n C hl (kx := 2) rfl rfl dX7_readSum_60 ?_
  obtain ⟨r7, μ6, e8, hf⟩ := bn_some hf
  refine r_callVv C hw (K := [(0, x1)]) ok7 t0 (h_4 _ _ _ _ _ t0 e8) mi_X7_readTerm in_X7_readTerm se_X7_readTerm kl_7_174 rfl rfl (lvh_sz hl) ⟨by simp only [rm]; omega, by simp only [rm]; omega⟩ (Kr := []) rfl (Nat.le_of_ble_eq_true rfl) dX7_readSum_61 (fun H locs hw => ?_)
  refine r_istore_n C hl (by decide) (L' := [(2, 0, r7), (4, 0, v1), (0, 2, x0), (1, 0, x1), (3, 0, x3)]) rfl rfl dX7_readSum_64 (fun ls hl => ?_)
  refine r_aload_n C hl (kx := 2) rfl rfl dX7_readSum_65 ?_
  refine gf_7_25 C hw t0 dX7_readSum_66 ?_
  obtain ⟨g9, hf⟩ := gd_some hf
  refine gf_7_142 C hw g9 dX7_readSum_69 ?_
  refine r_iload C hl (kx := 1) rfl dX7_readSum_72 ?_
  refine r_bipush C (by decide) dX7_readSum_74 ?_
  refine r_icmp_ne C (tgt := 83) (by decide) dX7_readSum_76 (fun c10 => ?_) (fun c10 => ?_)
  · have hf := ite_f c10 hf
    refine r_iconst C dX7_readSum_83 ?_
    exact w_X7_readSum_84 C _ h_0 h_1 h_2 h_3 h_4 h_5 h_6 _ h8 hf t0 hw (lvh_sub hl [2, 3, 0, 4] rfl)
  · have hf := ite_t c10 hf
    refine r_iconst C dX7_readSum_79 ?_
    refine r_goto C (tgt := 84) (by decide) dX7_readSum_80 ?_
    exact w_X7_readSum_84 C _ h_0 h_1 h_2 h_3 h_4 h_5 h_6 _ h8 hf t0 hw (lvh_sub hl [2, 3, 0, 4] rfl)
set_option maxHeartbeats 4000000 in
set_option maxRecDepth 20000 in
theorem w_X7_readSum_8 (C : Cx p s m args meth c D b cX7_readSum 5 RX7 (some .boolean)) {r : Int} {μ' : Mem} (rec : Nat → Int → Int → Mem → Option (Int × Mem)) (h_0 : ∀ (x0 x1 : Int) (μ μ' : Mem) (r : Int), isK x0 7 → rec 0 x0 x1 μ = some (r, μ') → Ctr l D b yX7_readAtom cX7_readAtom 2 (some .boolean) (n0 + 2) [(2, x0), (0, x1)] μ (some (.int (jI r))) μ') (h_1 : ∀ (x0 x1 : Int) (μ μ' : Mem) (r : Int), isK x0 7 → rec 1 x0 x1 μ = some (r, μ') → Ctr l D b yX7_readBoth cX7_readBoth 4 (some .boolean) (n0 + 2) [(2, x0), (0, x1)] μ (some (.int (jI r))) μ') (h_2 : ∀ (x0 x1 : Int) (μ μ' : Mem) (r : Int), isK x0 7 → rec 2 x0 x1 μ = some (r, μ') → Ctr l D b yX7_readIf cX7_readIf 3 (some .boolean) (n0 + 2) [(2, x0), (0, x1)] μ (some (.int (jI r))) μ') (h_3 : ∀ (x0 x1 : Int) (μ μ' : Mem) (r : Int), isK x0 7 → rec 3 x0 x1 μ = some (r, μ') → Ctr l D b yX7_readSum cX7_readSum 5 (some .boolean) (n0 + 2) [(2, x0), (0, x1)] μ (some (.int (jI r))) μ') (h_4 : ∀ (x0 x1 : Int) (μ μ' : Mem) (r : Int), isK x0 7 → rec 4 x0 x1 μ = some (r, μ') → Ctr l D b yX7_readTerm cX7_readTerm 4 (some .boolean) (n0 + 2) [(2, x0), (0, x1)] μ (some (.int (jI r))) μ') (h_5 : ∀ (x0 x1 : Int) (μ μ' : Mem) (r : Int), isK x0 7 → rec 5 x0 x1 μ = some (r, μ') → Ctr l D b yX7_readTruth cX7_readTruth 4 (some .boolean) (n0 + 2) [(2, x0), (0, x1)] μ (some (.int (jI r))) μ') (h_6 : ∀ (x0 x1 : Int) (μ μ' : Mem) (r : Int), isK x0 7 → rec 6 x0 x1 μ = some (r, μ') → Ctr l D b yX7_readUnit cX7_readUnit 4 (some .boolean) (n0 + 2) [(2, x0), (0, x1)] μ (some (.int (jI r))) μ') : ∀ (n : Nat) (x0 x1 x2 x3 : Int) (μ : Mem) (H : Heap) (locs : List Loc) (ls : Array Slot), f_X7_readSum_w8 rec n x0 x1 x2 x3 μ = some (r, μ') → isK x0 7 → Hw D b μ s.heap H locs → lvh b ls 5 [(0, 2, x0), (1, 0, x1), (2, 0, x2), (3, 0, x3)] → W p l e (rm (n0 + 1 + 2)) s m args below meth c H locs 0 0 (QM below args s D b (some (.int (jI r))) μ') (F0 m 8 ls []) := by
  intro n
  induction n with
  | zero => intro x0 x1 x2 x3 μ H locs ls hf; cases hf
  | succ n ih =>
    intro x0 x1 x2 x3 μ H locs ls hf t0 hw hl
    rw [f_X7_readSum_w8.eq_2] at hf
    refine r_iload_n C hl (kx := 3) rfl rfl dX7_readSum_8 ?_
    refine r_sipush C (by decide) dX7_readSum_9 ?_
    refine r_icmp_ge C (tgt := 94) (by decide) dX7_readSum_12 (fun c1 => ?_) (fun c1 => ?_)
    · have hf := ite_t c1 hf
      refine r_iload_n C hl (kx := 2) rfl rfl dX7_readSum_94 ?_
      obtain ⟨g2, hf⟩ := gd_some hf
      exact r_zret C hw g2 hf dX7_readSum_95
    · have hf := ite_f c1 hf
      refine r_iload_n C hl (kx := 2) rfl rfl dX7_readSum_15 ?_
      refine r_if_eq C (tgt := 94) (by decide) dX7_readSum_16 (fun c3 => ?_) (fun c3 => ?_)
      · have hf := ite_t c3 hf
        refine r_iload_n C hl (kx := 2) rfl rfl dX7_readSum_94 ?_
        obtain ⟨g4, hf⟩ := gd_some hf
        exact r_zret C hw g4 hf dX7_readSum_95
      · have hf := ite_f c3 hf
        refine r_aload_n C hl (kx := 0) rfl rfl dX7_readSum_19 ?_
        refine gf_7_12 C hw t0 dX7_readSum_20 ?_
        refine gf_7_42 C hw (ow_7_0 t0) dX7_readSum_23 ?_
        refine r_bipush C (by decide) dX7_readSum_26 ?_
        refine r_icmp_eq C (tgt := 43) (by decide) dX7_readSum_28 (fun c5 => ?_) (fun c5 => ?_)
        · have hf := ite_t c5 hf
          exact w_X7_readSum_43 C _ h_0 h_1 h_2 h_3 h_4 h_5 h_6 _ ih hf t0 hw (lvh_sub hl [0, 1, 3] rfl)
        · have hf := ite_f c5 hf
          refine r_aload_n C hl (kx := 0) rfl rfl dX7_readSum_31 ?_
          refine gf_7_12 C hw t0 dX7_readSum_32 ?_
          refine gf_7_42 C hw (ow_7_0 t0) dX7_readSum_35 ?_
          refine r_bipush C (by decide) dX7_readSum_38 ?_
          refine r_icmp_ne C (tgt := 94) (by decide) dX7_readSum_40 (fun c6 => ?_) (fun c6 => ?_)
          · have hf := ite_f c6 hf
            refine r_iload_n C hl (kx := 2) rfl rfl dX7_readSum_94 ?_
            obtain ⟨g7, hf⟩ := gd_some hf
            exact r_zret C hw g7 hf dX7_readSum_95
          · have hf := ite_t c6 hf
            exact w_X7_readSum_43 C _ h_0 h_1 h_2 h_3 h_4 h_5 h_6 _ ih hf t0 hw (lvh_sub hl [0, 1, 3] rfl)
set_option maxHeartbeats 4000000 in
set_option maxRecDepth 20000 in
theorem w_X7_readSum_0 (C : Cx p s m args meth c D b cX7_readSum 5 RX7 (some .boolean)) {r : Int} {μ' : Mem} (rec : Nat → Int → Int → Mem → Option (Int × Mem)) (h_0 : ∀ (x0 x1 : Int) (μ μ' : Mem) (r : Int), isK x0 7 → rec 0 x0 x1 μ = some (r, μ') → Ctr l D b yX7_readAtom cX7_readAtom 2 (some .boolean) (n0 + 2) [(2, x0), (0, x1)] μ (some (.int (jI r))) μ') (h_1 : ∀ (x0 x1 : Int) (μ μ' : Mem) (r : Int), isK x0 7 → rec 1 x0 x1 μ = some (r, μ') → Ctr l D b yX7_readBoth cX7_readBoth 4 (some .boolean) (n0 + 2) [(2, x0), (0, x1)] μ (some (.int (jI r))) μ') (h_2 : ∀ (x0 x1 : Int) (μ μ' : Mem) (r : Int), isK x0 7 → rec 2 x0 x1 μ = some (r, μ') → Ctr l D b yX7_readIf cX7_readIf 3 (some .boolean) (n0 + 2) [(2, x0), (0, x1)] μ (some (.int (jI r))) μ') (h_3 : ∀ (x0 x1 : Int) (μ μ' : Mem) (r : Int), isK x0 7 → rec 3 x0 x1 μ = some (r, μ') → Ctr l D b yX7_readSum cX7_readSum 5 (some .boolean) (n0 + 2) [(2, x0), (0, x1)] μ (some (.int (jI r))) μ') (h_4 : ∀ (x0 x1 : Int) (μ μ' : Mem) (r : Int), isK x0 7 → rec 4 x0 x1 μ = some (r, μ') → Ctr l D b yX7_readTerm cX7_readTerm 4 (some .boolean) (n0 + 2) [(2, x0), (0, x1)] μ (some (.int (jI r))) μ') (h_5 : ∀ (x0 x1 : Int) (μ μ' : Mem) (r : Int), isK x0 7 → rec 5 x0 x1 μ = some (r, μ') → Ctr l D b yX7_readTruth cX7_readTruth 4 (some .boolean) (n0 + 2) [(2, x0), (0, x1)] μ (some (.int (jI r))) μ') (h_6 : ∀ (x0 x1 : Int) (μ μ' : Mem) (r : Int), isK x0 7 → rec 6 x0 x1 μ = some (r, μ') → Ctr l D b yX7_readUnit cX7_readUnit 4 (some .boolean) (n0 + 2) [(2, x0), (0, x1)] μ (some (.int (jI r))) μ') {x0 x1 : Int} {μ : Mem} {H : Heap} {locs : List Loc} {ls : Array Slot} (hf : b_X7_readSum rec x0 x1 μ = some (r, μ')) (t0 : isK x0 7) (hw : Hw D b μ s.heap H locs) (hl : lvh b ls 5 [(0, 2, x0), (1, 0, x1)]) : W p l e (rm (n0 + 1 + 2)) s m args below meth c H locs 0 0 (QM below args s D b (some (.int (jI r))) μ') (F0 m 0 ls []) := by
  unfold b_X7_readSum at hf
  refine r_aload_n C hl (kx := 0) rfl rfl dX7_readSum_0 ?_
  refine r_iload_n C hl (kx := 1) rfl rfl dX7_readSum_1 ?_
  obtain ⟨r2, μ1, e3, hf⟩ := bn_some hf
  refine r_callVv C hw (K := [(0, x1)]) ok7 t0 (h_4 _ _ _ _ _ t0 e3) mi_X7_readTerm in_X7_readTerm se_X7_readTerm kl_7_174 rfl rfl (lvh_sz hl) ⟨by simp only [rm]; omega, by simp only [rm]; omega⟩ (Kr := []) rfl (Nat.le_of_ble_eq_true rfl) dX7_readSum_2 (fun H locs hw => ?_)
  refine r_istore_n C hl (by decide) (L' := [(2, 0, r2), (0, 2, x0), (1, 0, x1)]) rfl rfl dX7_readSum_5 (fun ls hl => ?_)
  refine r_iconst C dX7_readSum_6 ?_
  refine r_istore_n C hl (by decide) (L' := [(3, 0, 0), (2, 0, r2), (0, 2, x0), (1, 0, x1)]) rfl rfl dX7_readSum_7 (fun ls hl => ?_)
  exact w_X7_readSum_8 C _ h_0 h_1 h_2 h_3 h_4 h_5 h_6 FU _ _ _ _ _ _ _ _ hf t0 hw (lvh_sub hl [2, 3, 1, 0] rfl)
set_option maxHeartbeats 4000000 in
set_option maxRecDepth 20000 in
theorem w_X7_readTerm_8 (C : Cx p s m args meth c D b cX7_readTerm 4 RX7 (some .boolean)) {r : Int} {μ' : Mem} (rec : Nat → Int → Int → Mem → Option (Int × Mem)) (h_0 : ∀ (x0 x1 : Int) (μ μ' : Mem) (r : Int), isK x0 7 → rec 0 x0 x1 μ = some (r, μ') → Ctr l D b yX7_readAtom cX7_readAtom 2 (some .boolean) (n0 + 2) [(2, x0), (0, x1)] μ (some (.int (jI r))) μ') (h_1 : ∀ (x0 x1 : Int) (μ μ' : Mem) (r : Int), isK x0 7 → rec 1 x0 x1 μ = some (r, μ') → Ctr l D b yX7_readBoth cX7_readBoth 4 (some .boolean) (n0 + 2) [(2, x0), (0, x1)] μ (some (.int (jI r))) μ') (h_2 : ∀ (x0 x1 : Int) (μ μ' : Mem) (r : Int), isK x0 7 → rec 2 x0 x1 μ = some (r, μ') → Ctr l D b yX7_readIf cX7_readIf 3 (some .boolean) (n0 + 2) [(2, x0), (0, x1)] μ (some (.int (jI r))) μ') (h_3 : ∀ (x0 x1 : Int) (μ μ' : Mem) (r : Int), isK x0 7 → rec 3 x0 x1 μ = some (r, μ') → Ctr l D b yX7_readSum cX7_readSum 5 (some .boolean) (n0 + 2) [(2, x0), (0, x1)] μ (some (.int (jI r))) μ') (h_4 : ∀ (x0 x1 : Int) (μ μ' : Mem) (r : Int), isK x0 7 → rec 4 x0 x1 μ = some (r, μ') → Ctr l D b yX7_readTerm cX7_readTerm 4 (some .boolean) (n0 + 2) [(2, x0), (0, x1)] μ (some (.int (jI r))) μ') (h_5 : ∀ (x0 x1 : Int) (μ μ' : Mem) (r : Int), isK x0 7 → rec 5 x0 x1 μ = some (r, μ') → Ctr l D b yX7_readTruth cX7_readTruth 4 (some .boolean) (n0 + 2) [(2, x0), (0, x1)] μ (some (.int (jI r))) μ') (h_6 : ∀ (x0 x1 : Int) (μ μ' : Mem) (r : Int), isK x0 7 → rec 6 x0 x1 μ = some (r, μ') → Ctr l D b yX7_readUnit cX7_readUnit 4 (some .boolean) (n0 + 2) [(2, x0), (0, x1)] μ (some (.int (jI r))) μ') : ∀ (n : Nat) (x0 x1 x2 x3 : Int) (μ : Mem) (H : Heap) (locs : List Loc) (ls : Array Slot), f_X7_readTerm_w8 rec n x0 x1 x2 x3 μ = some (r, μ') → isK x0 7 → Hw D b μ s.heap H locs → lvh b ls 4 [(0, 2, x0), (1, 0, x1), (2, 0, x2), (3, 0, x3)] → W p l e (rm (n0 + 1 + 2)) s m args below meth c H locs 0 0 (QM below args s D b (some (.int (jI r))) μ') (F0 m 8 ls []) := by
  intro n
  induction n with
  | zero => intro x0 x1 x2 x3 μ H locs ls hf; cases hf
  | succ n ih =>
    intro x0 x1 x2 x3 μ H locs ls hf t0 hw hl
    rw [f_X7_readTerm_w8.eq_2] at hf
    refine r_iload_n C hl (kx := 3) rfl rfl dX7_readTerm_8 ?_
    refine r_sipush C (by decide) dX7_readTerm_9 ?_
    refine r_icmp_ge C (tgt := 62) (by decide) dX7_readTerm_12 (fun c1 => ?_) (fun c1 => ?_)
    · have hf := ite_t c1 hf
      refine r_iload_n C hl (kx := 2) rfl rfl dX7_readTerm_62 ?_
      obtain ⟨g2, hf⟩ := gd_some hf
      exact r_zret C hw g2 hf dX7_readTerm_63
    · have hf := ite_f c1 hf
      refine r_iload_n C hl (kx := 2) rfl rfl dX7_readTerm_15 ?_
      refine r_if_eq C (tgt := 62) (by decide) dX7_readTerm_16 (fun c3 => ?_) (fun c3 => ?_)
      · have hf := ite_t c3 hf
        refine r_iload_n C hl (kx := 2) rfl rfl dX7_readTerm_62 ?_
        obtain ⟨g4, hf⟩ := gd_some hf
        exact r_zret C hw g4 hf dX7_readTerm_63
      · have hf := ite_f c3 hf
        refine r_aload_n C hl (kx := 0) rfl rfl dX7_readTerm_19 ?_
        refine gf_7_12 C hw t0 dX7_readTerm_20 ?_
        refine gf_7_42 C hw (ow_7_0 t0) dX7_readTerm_23 ?_
        refine r_bipush C (by decide) dX7_readTerm_26 ?_
        refine r_icmp_ne C (tgt := 62) (by decide) dX7_readTerm_28 (fun c5 => ?_) (fun c5 => ?_)
        · have hf := ite_f c5 hf
          refine r_iload_n C hl (kx := 2) rfl rfl dX7_readTerm_62 ?_
          obtain ⟨g6, hf⟩ := gd_some hf
          exact r_zret C hw g6 hf dX7_readTerm_63
        · have hf := ite_t c5 hf
          refine r_aload_n C hl (kx := 0) rfl rfl dX7_readTerm_31 ?_
          refine gf_7_12 C hw t0 dX7_readTerm_32 ?_
          obtain ⟨r8, μ7, e9, hf⟩ := bn_some hf
          refine r_callVn C hw (K := []) ok9 (ow_7_0 t0) (c_X9_advance l D b (ow_7_0 t0) e9) mi_X9_advance in_X9_advance se_X9_advance kl_7_55 rfl rfl (lvh_sz hl) ⟨by simp only [rm]; omega, by simp only [rm]; omega⟩ (Kr := []) rfl (Nat.le_of_ble_eq_true rfl) dX7_readTerm_35 (fun H locs hw => ?_)
          refine r_aload_n C hl (kx := 0) rfl rfl dX7_readTerm_38 ?_
          refine r_iload_n C hl (kx := 1) rfl rfl dX7_readTerm_39 ?_
          obtain ⟨r11, μ10, e12, hf⟩ := bn_some hf
          refine r_callVv C hw (K := [(0, x1)]) ok7 t0 (h_0 _ _ _ _ _ t0 e12) mi_X7_readAtom in_X7_readAtom se_X7_readAtom kl_7_177 rfl rfl (lvh_sz hl) ⟨by simp only [rm]; omega, by simp only [rm]; omega⟩ (Kr := []) rfl (Nat.le_of_ble_eq_true rfl) dX7_readTerm_40 (fun H locs hw => ?_)
          refine r_istore_n C hl (by decide) (L' := [(2, 0, r11), (0, 2, x0), (1, 0, x1), (3, 0, x3)]) rfl rfl dX7_readTerm_43 (fun ls hl => ?_)
          refine r_aload_n C hl (kx := 1) rfl rfl dX7_readTerm_44 ?_
          refine gf_7_25 C hw t0 dX7_readTerm_45 ?_
          obtain ⟨g13, hf⟩ := gd_some hf
          refine gf_7_142 C hw g13 dX7_readTerm_48 ?_
          refine r_iconst C dX7_readTerm_51 ?_
          refine r_iconst C dX7_readTerm_52 ?_
          obtain ⟨r15, μ14, e16, hf⟩ := bn_some hf
          refine r_callVn C hw (K := [(0, 4), (0, 0)]) ok4 (ow_3_14 g13) (c_X4_addStep l D b (ow_3_14 g13) e16) mi_X4_addStep in_X4_addStep se_X4_addStep kl_7_165 rfl rfl (lvh_sz hl) ⟨by simp only [rm]; omega, by simp only [rm]; omega⟩ (Kr := []) rfl (Nat.le_of_ble_eq_true rfl) dX7_readTerm_53 (fun H locs hw => ?_)
          refine r_iinc C hl (kx := 3) rfl (by decide) (L' := [(3, 0, (x3 + 1)), (2, 0, r11), (0, 2, x0), (1, 0, x1)]) rfl dX7_readTerm_56 (fun ls hl => ?_)
          refine r_goto C (tgt := 8) (by decide) dX7_readTerm_59 ?_
          exact ih _ _ _ _ _ _ _ _ hf t0 hw (lvh_sub hl [2, 3, 1, 0] rfl)
set_option maxHeartbeats 4000000 in
set_option maxRecDepth 20000 in
theorem w_X7_readTerm_0 (C : Cx p s m args meth c D b cX7_readTerm 4 RX7 (some .boolean)) {r : Int} {μ' : Mem} (rec : Nat → Int → Int → Mem → Option (Int × Mem)) (h_0 : ∀ (x0 x1 : Int) (μ μ' : Mem) (r : Int), isK x0 7 → rec 0 x0 x1 μ = some (r, μ') → Ctr l D b yX7_readAtom cX7_readAtom 2 (some .boolean) (n0 + 2) [(2, x0), (0, x1)] μ (some (.int (jI r))) μ') (h_1 : ∀ (x0 x1 : Int) (μ μ' : Mem) (r : Int), isK x0 7 → rec 1 x0 x1 μ = some (r, μ') → Ctr l D b yX7_readBoth cX7_readBoth 4 (some .boolean) (n0 + 2) [(2, x0), (0, x1)] μ (some (.int (jI r))) μ') (h_2 : ∀ (x0 x1 : Int) (μ μ' : Mem) (r : Int), isK x0 7 → rec 2 x0 x1 μ = some (r, μ') → Ctr l D b yX7_readIf cX7_readIf 3 (some .boolean) (n0 + 2) [(2, x0), (0, x1)] μ (some (.int (jI r))) μ') (h_3 : ∀ (x0 x1 : Int) (μ μ' : Mem) (r : Int), isK x0 7 → rec 3 x0 x1 μ = some (r, μ') → Ctr l D b yX7_readSum cX7_readSum 5 (some .boolean) (n0 + 2) [(2, x0), (0, x1)] μ (some (.int (jI r))) μ') (h_4 : ∀ (x0 x1 : Int) (μ μ' : Mem) (r : Int), isK x0 7 → rec 4 x0 x1 μ = some (r, μ') → Ctr l D b yX7_readTerm cX7_readTerm 4 (some .boolean) (n0 + 2) [(2, x0), (0, x1)] μ (some (.int (jI r))) μ') (h_5 : ∀ (x0 x1 : Int) (μ μ' : Mem) (r : Int), isK x0 7 → rec 5 x0 x1 μ = some (r, μ') → Ctr l D b yX7_readTruth cX7_readTruth 4 (some .boolean) (n0 + 2) [(2, x0), (0, x1)] μ (some (.int (jI r))) μ') (h_6 : ∀ (x0 x1 : Int) (μ μ' : Mem) (r : Int), isK x0 7 → rec 6 x0 x1 μ = some (r, μ') → Ctr l D b yX7_readUnit cX7_readUnit 4 (some .boolean) (n0 + 2) [(2, x0), (0, x1)] μ (some (.int (jI r))) μ') {x0 x1 : Int} {μ : Mem} {H : Heap} {locs : List Loc} {ls : Array Slot} (hf : b_X7_readTerm rec x0 x1 μ = some (r, μ')) (t0 : isK x0 7) (hw : Hw D b μ s.heap H locs) (hl : lvh b ls 4 [(0, 2, x0), (1, 0, x1)]) : W p l e (rm (n0 + 1 + 2)) s m args below meth c H locs 0 0 (QM below args s D b (some (.int (jI r))) μ') (F0 m 0 ls []) := by
  unfold b_X7_readTerm at hf
  refine r_aload_n C hl (kx := 0) rfl rfl dX7_readTerm_0 ?_
  refine r_iload_n C hl (kx := 1) rfl rfl dX7_readTerm_1 ?_
  obtain ⟨r2, μ1, e3, hf⟩ := bn_some hf
  refine r_callVv C hw (K := [(0, x1)]) ok7 t0 (h_0 _ _ _ _ _ t0 e3) mi_X7_readAtom in_X7_readAtom se_X7_readAtom kl_7_177 rfl rfl (lvh_sz hl) ⟨by simp only [rm]; omega, by simp only [rm]; omega⟩ (Kr := []) rfl (Nat.le_of_ble_eq_true rfl) dX7_readTerm_2 (fun H locs hw => ?_)
  refine r_istore_n C hl (by decide) (L' := [(2, 0, r2), (0, 2, x0), (1, 0, x1)]) rfl rfl dX7_readTerm_5 (fun ls hl => ?_)
  refine r_iconst C dX7_readTerm_6 ?_
  refine r_istore_n C hl (by decide) (L' := [(3, 0, 0), (2, 0, r2), (0, 2, x0), (1, 0, x1)]) rfl rfl dX7_readTerm_7 (fun ls hl => ?_)
  exact w_X7_readTerm_8 C _ h_0 h_1 h_2 h_3 h_4 h_5 h_6 FU _ _ _ _ _ _ _ _ hf t0 hw (lvh_sub hl [2, 3, 1, 0] rfl)
set_option maxHeartbeats 4000000 in
set_option maxRecDepth 20000 in
theorem w_X7_readTruth_8 (C : Cx p s m args meth c D b cX7_readTruth 4 RX7 (some .boolean)) {r : Int} {μ' : Mem} (rec : Nat → Int → Int → Mem → Option (Int × Mem)) (h_0 : ∀ (x0 x1 : Int) (μ μ' : Mem) (r : Int), isK x0 7 → rec 0 x0 x1 μ = some (r, μ') → Ctr l D b yX7_readAtom cX7_readAtom 2 (some .boolean) (n0 + 2) [(2, x0), (0, x1)] μ (some (.int (jI r))) μ') (h_1 : ∀ (x0 x1 : Int) (μ μ' : Mem) (r : Int), isK x0 7 → rec 1 x0 x1 μ = some (r, μ') → Ctr l D b yX7_readBoth cX7_readBoth 4 (some .boolean) (n0 + 2) [(2, x0), (0, x1)] μ (some (.int (jI r))) μ') (h_2 : ∀ (x0 x1 : Int) (μ μ' : Mem) (r : Int), isK x0 7 → rec 2 x0 x1 μ = some (r, μ') → Ctr l D b yX7_readIf cX7_readIf 3 (some .boolean) (n0 + 2) [(2, x0), (0, x1)] μ (some (.int (jI r))) μ') (h_3 : ∀ (x0 x1 : Int) (μ μ' : Mem) (r : Int), isK x0 7 → rec 3 x0 x1 μ = some (r, μ') → Ctr l D b yX7_readSum cX7_readSum 5 (some .boolean) (n0 + 2) [(2, x0), (0, x1)] μ (some (.int (jI r))) μ') (h_4 : ∀ (x0 x1 : Int) (μ μ' : Mem) (r : Int), isK x0 7 → rec 4 x0 x1 μ = some (r, μ') → Ctr l D b yX7_readTerm cX7_readTerm 4 (some .boolean) (n0 + 2) [(2, x0), (0, x1)] μ (some (.int (jI r))) μ') (h_5 : ∀ (x0 x1 : Int) (μ μ' : Mem) (r : Int), isK x0 7 → rec 5 x0 x1 μ = some (r, μ') → Ctr l D b yX7_readTruth cX7_readTruth 4 (some .boolean) (n0 + 2) [(2, x0), (0, x1)] μ (some (.int (jI r))) μ') (h_6 : ∀ (x0 x1 : Int) (μ μ' : Mem) (r : Int), isK x0 7 → rec 6 x0 x1 μ = some (r, μ') → Ctr l D b yX7_readUnit cX7_readUnit 4 (some .boolean) (n0 + 2) [(2, x0), (0, x1)] μ (some (.int (jI r))) μ') : ∀ (n : Nat) (x0 x1 x2 x3 : Int) (μ : Mem) (H : Heap) (locs : List Loc) (ls : Array Slot), f_X7_readTruth_w8 rec n x0 x1 x2 x3 μ = some (r, μ') → isK x0 7 → Hw D b μ s.heap H locs → lvh b ls 4 [(0, 2, x0), (1, 0, x1), (2, 0, x2), (3, 0, x3)] → W p l e (rm (n0 + 1 + 2)) s m args below meth c H locs 0 0 (QM below args s D b (some (.int (jI r))) μ') (F0 m 8 ls []) := by
  intro n
  induction n with
  | zero => intro x0 x1 x2 x3 μ H locs ls hf; cases hf
  | succ n ih =>
    intro x0 x1 x2 x3 μ H locs ls hf t0 hw hl
    rw [f_X7_readTruth_w8.eq_2] at hf
    refine r_iload_n C hl (kx := 3) rfl rfl dX7_readTruth_8 ?_
    refine r_sipush C (by decide) dX7_readTruth_9 ?_
    refine r_icmp_ge C (tgt := 64) (by decide) dX7_readTruth_12 (fun c1 => ?_) (fun c1 => ?_)
    · have hf := ite_t c1 hf
      refine r_iload_n C hl (kx := 2) rfl rfl dX7_readTruth_64 ?_
      obtain ⟨g2, hf⟩ := gd_some hf
      exact r_zret C hw g2 hf dX7_readTruth_65
    · have hf := ite_f c1 hf
      refine r_iload_n C hl (kx := 2) rfl rfl dX7_readTruth_15 ?_
      refine r_if_eq C (tgt := 64) (by decide) dX7_readTruth_16 (fun c3 => ?_) (fun c3 => ?_)
      · have hf := ite_t c3 hf
        refine r_iload_n C hl (kx := 2) rfl rfl dX7_readTruth_64 ?_
        obtain ⟨g4, hf⟩ := gd_some hf
        exact r_zret C hw g4 hf dX7_readTruth_65
      · have hf := ite_f c3 hf
        refine r_aload_n C hl (kx := 0) rfl rfl dX7_readTruth_19 ?_
        refine gf_7_12 C hw t0 dX7_readTruth_20 ?_
        refine gf_7_42 C hw (ow_7_0 t0) dX7_readTruth_23 ?_
        refine r_sipush C (by decide) dX7_readTruth_26 ?_
        refine r_icmp_ne C (tgt := 64) (by decide) dX7_readTruth_29 (fun c5 => ?_) (fun c5 => ?_)
        · have hf := ite_f c5 hf
          refine r_iload_n C hl (kx := 2) rfl rfl dX7_readTruth_64 ?_
          obtain ⟨g6, hf⟩ := gd_some hf
          exact r_zret C hw g6 hf dX7_readTruth_65
        · have hf := ite_t c5 hf
          refine r_aload_n C hl (kx := 0) rfl rfl dX7_readTruth_32 ?_
          refine gf_7_12 C hw t0 dX7_readTruth_33 ?_
          obtain ⟨r8, μ7, e9, hf⟩ := bn_some hf
          refine r_callVn C hw (K := []) ok9 (ow_7_0 t0) (c_X9_advance l D b (ow_7_0 t0) e9) mi_X9_advance in_X9_advance se_X9_advance kl_7_55 rfl rfl (lvh_sz hl) ⟨by simp only [rm]; omega, by simp only [rm]; omega⟩ (Kr := []) rfl (Nat.le_of_ble_eq_true rfl) dX7_readTruth_36 (fun H locs hw => ?_)
          refine r_aload_n C hl (kx := 0) rfl rfl dX7_readTruth_39 ?_
          refine r_iload_n C hl (kx := 1) rfl rfl dX7_readTruth_40 ?_
          obtain ⟨r11, μ10, e12, hf⟩ := bn_some hf
          refine r_callVv C hw (K := [(0, x1)]) ok7 t0 (h_1 _ _ _ _ _ t0 e12) mi_X7_readBoth in_X7_readBoth se_X7_readBoth kl_7_162 rfl rfl (lvh_sz hl) ⟨by simp only [rm]; omega, by simp only [rm]; omega⟩ (Kr := []) rfl (Nat.le_of_ble_eq_true rfl) dX7_readTruth_41 (fun H locs hw => ?_)
          refine r_istore_n C hl (by decide) (L' := [(2, 0, r11), (0, 2, x0), (1, 0, x1), (3, 0, x3)]) rfl rfl dX7_readTruth_44 (fun ls hl => ?_)
          refine r_aload_n C hl (kx := 1) rfl rfl dX7_readTruth_45 ?_
          refine gf_7_25 C hw t0 dX7_readTruth_46 ?_
          obtain ⟨g13, hf⟩ := gd_some hf
          refine gf_7_142 C hw g13 dX7_readTruth_49 ?_
          refine r_bipush C (by decide) dX7_readTruth_52 ?_
          refine r_iconst C dX7_readTruth_54 ?_
          obtain ⟨r15, μ14, e16, hf⟩ := bn_some hf
          refine r_callVn C hw (K := [(0, 10), (0, 0)]) ok4 (ow_3_14 g13) (c_X4_addStep l D b (ow_3_14 g13) e16) mi_X4_addStep in_X4_addStep se_X4_addStep kl_7_165 rfl rfl (lvh_sz hl) ⟨by simp only [rm]; omega, by simp only [rm]; omega⟩ (Kr := []) rfl (Nat.le_of_ble_eq_true rfl) dX7_readTruth_55 (fun H locs hw => ?_)
          refine r_iinc C hl (kx := 3) rfl (by decide) (L' := [(3, 0, (x3 + 1)), (2, 0, r11), (0, 2, x0), (1, 0, x1)]) rfl dX7_readTruth_58 (fun ls hl => ?_)
          refine r_goto C (tgt := 8) (by decide) dX7_readTruth_61 ?_
          exact ih _ _ _ _ _ _ _ _ hf t0 hw (lvh_sub hl [2, 3, 1, 0] rfl)
set_option maxHeartbeats 4000000 in
set_option maxRecDepth 20000 in
theorem w_X7_readTruth_0 (C : Cx p s m args meth c D b cX7_readTruth 4 RX7 (some .boolean)) {r : Int} {μ' : Mem} (rec : Nat → Int → Int → Mem → Option (Int × Mem)) (h_0 : ∀ (x0 x1 : Int) (μ μ' : Mem) (r : Int), isK x0 7 → rec 0 x0 x1 μ = some (r, μ') → Ctr l D b yX7_readAtom cX7_readAtom 2 (some .boolean) (n0 + 2) [(2, x0), (0, x1)] μ (some (.int (jI r))) μ') (h_1 : ∀ (x0 x1 : Int) (μ μ' : Mem) (r : Int), isK x0 7 → rec 1 x0 x1 μ = some (r, μ') → Ctr l D b yX7_readBoth cX7_readBoth 4 (some .boolean) (n0 + 2) [(2, x0), (0, x1)] μ (some (.int (jI r))) μ') (h_2 : ∀ (x0 x1 : Int) (μ μ' : Mem) (r : Int), isK x0 7 → rec 2 x0 x1 μ = some (r, μ') → Ctr l D b yX7_readIf cX7_readIf 3 (some .boolean) (n0 + 2) [(2, x0), (0, x1)] μ (some (.int (jI r))) μ') (h_3 : ∀ (x0 x1 : Int) (μ μ' : Mem) (r : Int), isK x0 7 → rec 3 x0 x1 μ = some (r, μ') → Ctr l D b yX7_readSum cX7_readSum 5 (some .boolean) (n0 + 2) [(2, x0), (0, x1)] μ (some (.int (jI r))) μ') (h_4 : ∀ (x0 x1 : Int) (μ μ' : Mem) (r : Int), isK x0 7 → rec 4 x0 x1 μ = some (r, μ') → Ctr l D b yX7_readTerm cX7_readTerm 4 (some .boolean) (n0 + 2) [(2, x0), (0, x1)] μ (some (.int (jI r))) μ') (h_5 : ∀ (x0 x1 : Int) (μ μ' : Mem) (r : Int), isK x0 7 → rec 5 x0 x1 μ = some (r, μ') → Ctr l D b yX7_readTruth cX7_readTruth 4 (some .boolean) (n0 + 2) [(2, x0), (0, x1)] μ (some (.int (jI r))) μ') (h_6 : ∀ (x0 x1 : Int) (μ μ' : Mem) (r : Int), isK x0 7 → rec 6 x0 x1 μ = some (r, μ') → Ctr l D b yX7_readUnit cX7_readUnit 4 (some .boolean) (n0 + 2) [(2, x0), (0, x1)] μ (some (.int (jI r))) μ') {x0 x1 : Int} {μ : Mem} {H : Heap} {locs : List Loc} {ls : Array Slot} (hf : b_X7_readTruth rec x0 x1 μ = some (r, μ')) (t0 : isK x0 7) (hw : Hw D b μ s.heap H locs) (hl : lvh b ls 4 [(0, 2, x0), (1, 0, x1)]) : W p l e (rm (n0 + 1 + 2)) s m args below meth c H locs 0 0 (QM below args s D b (some (.int (jI r))) μ') (F0 m 0 ls []) := by
  unfold b_X7_readTruth at hf
  refine r_aload_n C hl (kx := 0) rfl rfl dX7_readTruth_0 ?_
  refine r_iload_n C hl (kx := 1) rfl rfl dX7_readTruth_1 ?_
  obtain ⟨r2, μ1, e3, hf⟩ := bn_some hf
  refine r_callVv C hw (K := [(0, x1)]) ok7 t0 (h_1 _ _ _ _ _ t0 e3) mi_X7_readBoth in_X7_readBoth se_X7_readBoth kl_7_162 rfl rfl (lvh_sz hl) ⟨by simp only [rm]; omega, by simp only [rm]; omega⟩ (Kr := []) rfl (Nat.le_of_ble_eq_true rfl) dX7_readTruth_2 (fun H locs hw => ?_)
  refine r_istore_n C hl (by decide) (L' := [(2, 0, r2), (0, 2, x0), (1, 0, x1)]) rfl rfl dX7_readTruth_5 (fun ls hl => ?_)
  refine r_iconst C dX7_readTruth_6 ?_
  refine r_istore_n C hl (by decide) (L' := [(3, 0, 0), (2, 0, r2), (0, 2, x0), (1, 0, x1)]) rfl rfl dX7_readTruth_7 (fun ls hl => ?_)
  exact w_X7_readTruth_8 C _ h_0 h_1 h_2 h_3 h_4 h_5 h_6 FU _ _ _ _ _ _ _ _ hf t0 hw (lvh_sub hl [2, 3, 1, 0] rfl)
set_option maxHeartbeats 4000000 in
set_option maxRecDepth 20000 in
theorem w_X7_readUnit_182 (C : Cx p s m args meth c D b cX7_readUnit 4 RX7 (some .boolean)) {r : Int} {μ' : Mem} (rec : Nat → Int → Int → Mem → Option (Int × Mem)) (h_0 : ∀ (x0 x1 : Int) (μ μ' : Mem) (r : Int), isK x0 7 → rec 0 x0 x1 μ = some (r, μ') → Ctr l D b yX7_readAtom cX7_readAtom 2 (some .boolean) (n0 + 2) [(2, x0), (0, x1)] μ (some (.int (jI r))) μ') (h_1 : ∀ (x0 x1 : Int) (μ μ' : Mem) (r : Int), isK x0 7 → rec 1 x0 x1 μ = some (r, μ') → Ctr l D b yX7_readBoth cX7_readBoth 4 (some .boolean) (n0 + 2) [(2, x0), (0, x1)] μ (some (.int (jI r))) μ') (h_2 : ∀ (x0 x1 : Int) (μ μ' : Mem) (r : Int), isK x0 7 → rec 2 x0 x1 μ = some (r, μ') → Ctr l D b yX7_readIf cX7_readIf 3 (some .boolean) (n0 + 2) [(2, x0), (0, x1)] μ (some (.int (jI r))) μ') (h_3 : ∀ (x0 x1 : Int) (μ μ' : Mem) (r : Int), isK x0 7 → rec 3 x0 x1 μ = some (r, μ') → Ctr l D b yX7_readSum cX7_readSum 5 (some .boolean) (n0 + 2) [(2, x0), (0, x1)] μ (some (.int (jI r))) μ') (h_4 : ∀ (x0 x1 : Int) (μ μ' : Mem) (r : Int), isK x0 7 → rec 4 x0 x1 μ = some (r, μ') → Ctr l D b yX7_readTerm cX7_readTerm 4 (some .boolean) (n0 + 2) [(2, x0), (0, x1)] μ (some (.int (jI r))) μ') (h_5 : ∀ (x0 x1 : Int) (μ μ' : Mem) (r : Int), isK x0 7 → rec 5 x0 x1 μ = some (r, μ') → Ctr l D b yX7_readTruth cX7_readTruth 4 (some .boolean) (n0 + 2) [(2, x0), (0, x1)] μ (some (.int (jI r))) μ') (h_6 : ∀ (x0 x1 : Int) (μ μ' : Mem) (r : Int), isK x0 7 → rec 6 x0 x1 μ = some (r, μ') → Ctr l D b yX7_readUnit cX7_readUnit 4 (some .boolean) (n0 + 2) [(2, x0), (0, x1)] μ (some (.int (jI r))) μ') {x3 s0 s1 : Int} {μ : Mem} {H : Heap} {locs : List Loc} {ls : Array Slot} (hf : f_X7_readUnit_j182 rec x3 s0 s1 μ = some (r, μ')) (hw : Hw D b μ s.heap H locs) (hl : lvh b ls 4 [(3, 0, x3)]) : W p l e (rm (n0 + 1 + 2)) s m args below meth c H locs 0 0 (QM below args s D b (some (.int (jI r))) μ') (F0 m 182 ls [.int (jI s1), rfv b s0]) := by
  unfold f_X7_readUnit_j182 at hf
  refine r_iconst C dX7_readUnit_182 ?_
  obtain ⟨g1, hf⟩ := gd_some hf
  obtain ⟨r3, μ2, e4, hf⟩ := bn_some hf
  refine r_callVn C hw (K := [(0, s1), (0, 0)]) ok4 g1 (c_X4_addStep l D b g1 e4) mi_X4_addStep in_X4_addStep se_X4_addStep kl_7_165 rfl rfl (lvh_sz hl) ⟨by simp only [rm]; omega, by simp only [rm]; omega⟩ (Kr := []) rfl (Nat.le_of_ble_eq_true rfl) dX7_readUnit_183 (fun H locs hw => ?_)
  refine r_iload_n C hl (kx := 0) rfl rfl dX7_readUnit_186 ?_
  obtain ⟨g5, hf⟩ := gd_some hf
  exact r_zret C hw g5 hf dX7_readUnit_187
set_option maxHeartbeats 4000000 in
set_option maxRecDepth 20000 in
theorem w_X7_readUnit_139 (C : Cx p s m args meth c D b cX7_readUnit 4 RX7 (some .boolean)) {r : Int} {μ' : Mem} (rec : Nat → Int → Int → Mem → Option (Int × Mem)) (h_0 : ∀ (x0 x1 : Int) (μ μ' : Mem) (r : Int), isK x0 7 → rec 0 x0 x1 μ = some (r, μ') → Ctr l D b yX7_readAtom cX7_readAtom 2 (some .boolean) (n0 + 2) [(2, x0), (0, x1)] μ (some (.int (jI r))) μ') (h_1 : ∀ (x0 x1 : Int) (μ μ' : Mem) (r : Int), isK x0 7 → rec 1 x0 x1 μ = some (r, μ') → Ctr l D b yX7_readBoth cX7_readBoth 4 (some .boolean) (n0 + 2) [(2, x0), (0, x1)] μ (some (.int (jI r))) μ') (h_2 : ∀ (x0 x1 : Int) (μ μ' : Mem) (r : Int), isK x0 7 → rec 2 x0 x1 μ = some (r, μ') → Ctr l D b yX7_readIf cX7_readIf 3 (some .boolean) (n0 + 2) [(2, x0), (0, x1)] μ (some (.int (jI r))) μ') (h_3 : ∀ (x0 x1 : Int) (μ μ' : Mem) (r : Int), isK x0 7 → rec 3 x0 x1 μ = some (r, μ') → Ctr l D b yX7_readSum cX7_readSum 5 (some .boolean) (n0 + 2) [(2, x0), (0, x1)] μ (some (.int (jI r))) μ') (h_4 : ∀ (x0 x1 : Int) (μ μ' : Mem) (r : Int), isK x0 7 → rec 4 x0 x1 μ = some (r, μ') → Ctr l D b yX7_readTerm cX7_readTerm 4 (some .boolean) (n0 + 2) [(2, x0), (0, x1)] μ (some (.int (jI r))) μ') (h_5 : ∀ (x0 x1 : Int) (μ μ' : Mem) (r : Int), isK x0 7 → rec 5 x0 x1 μ = some (r, μ') → Ctr l D b yX7_readTruth cX7_readTruth 4 (some .boolean) (n0 + 2) [(2, x0), (0, x1)] μ (some (.int (jI r))) μ') (h_6 : ∀ (x0 x1 : Int) (μ μ' : Mem) (r : Int), isK x0 7 → rec 6 x0 x1 μ = some (r, μ') → Ctr l D b yX7_readUnit cX7_readUnit 4 (some .boolean) (n0 + 2) [(2, x0), (0, x1)] μ (some (.int (jI r))) μ') {x0 x1 x2 : Int} {μ : Mem} {H : Heap} {locs : List Loc} {ls : Array Slot} (hf : f_X7_readUnit_j139 rec x0 x1 x2 μ = some (r, μ')) (t0 : isK x0 7) (hw : Hw D b μ s.heap H locs) (hl : lvh b ls 4 [(0, 2, x0), (1, 0, x1), (2, 0, x2)]) : W p l e (rm (n0 + 1 + 2)) s m args below meth c H locs 0 0 (QM below args s D b (some (.int (jI r))) μ') (F0 m 139 ls []) := by
  unfold f_X7_readUnit_j139 at hf
  refine r_aload_n C hl (kx := 0) rfl rfl dX7_readUnit_139 ?_
  refine gf_7_12 C hw t0 dX7_readUnit_140 ?_
  obtain ⟨r2, μ1, e3, hf⟩ := bn_some hf
  refine r_callVn C hw (K := []) ok9 (ow_7_0 t0) (c_X9_advance l D b (ow_7_0 t0) e3) mi_X9_advance in_X9_advance se_X9_advance kl_7_55 rfl rfl (lvh_sz hl) ⟨by simp only [rm]; omega, by simp only [rm]; omega⟩ (Kr := []) rfl (Nat.le_of_ble_eq_true rfl) dX7_readUnit_143 (fun H locs hw => ?_)
  refine r_aload_n C hl (kx := 0) rfl rfl dX7_readUnit_146 ?_
  refine r_iload_n C hl (kx := 1) rfl rfl dX7_readUnit_147 ?_
  obtain ⟨r5, μ4, e6, hf⟩ := bn_some hf
  refine r_callVv C hw (K := [(0, x1)]) ok7 t0 (h_3 _ _ _ _ _ t0 e6) mi_X7_readSum in_X7_readSum se_X7_readSum kl_7_152 rfl rfl (lvh_sz hl) ⟨by simp only [rm]; omega, by simp only [rm]; omega⟩ (Kr := []) rfl (Nat.le_of_ble_eq_true rfl) dX7_readUnit_148 (fun H locs hw => ?_)
  refine r_istore_n C hl (by decide) (L' := [(3, 0, r5), (0, 2, x0), (1, 0, x1), (2, 0, x2)]) rfl rfl dX7_readUnit_151 (fun ls hl => ?_)
  refine r_aload_n C hl (kx := 1) rfl rfl dX7_readUnit_152 ?_
  refine gf_7_25 C hw t0 dX7_readUnit_153 ?_
  obtain ⟨g7, hf⟩ := gd_some hf
  refine gf_7_142 C hw g7 dX7_readUnit_156 ?_
  refine r_iload_n C hl (kx := 3) rfl rfl dX7_readUnit_159 ?_
  refine r_bipush C (by decide) dX7_readUnit_160 ?_
  refine r_icmp_ne C (tgt := 169) (by decide) dX7_readUnit_162 (fun c8 => ?_) (fun c8 => ?_)
  · have hf := ite_f c8 hf
    refine r_iload_n C hl (kx := 3) rfl rfl dX7_readUnit_169 ?_
    refine r_bipush C (by decide) dX7_readUnit_170 ?_
    refine r_icmp_ne C (tgt := 180) (by decide) dX7_readUnit_172 (fun c9 => ?_) (fun c9 => ?_)
    · have hf := ite_f c9 hf
      refine r_bipush C (by decide) dX7_readUnit_180 ?_
      exact w_X7_readUnit_182 C _ h_0 h_1 h_2 h_3 h_4 h_5 h_6 hf hw (lvh_sub hl [0] rfl)
    · have hf := ite_t c9 hf
      refine r_bipush C (by decide) dX7_readUnit_175 ?_
      refine r_goto C (tgt := 182) (by decide) dX7_readUnit_177 ?_
      exact w_X7_readUnit_182 C _ h_0 h_1 h_2 h_3 h_4 h_5 h_6 hf hw (lvh_sub hl [0] rfl)
  · have hf := ite_t c8 hf
    refine r_iconst C dX7_readUnit_165 ?_
    refine r_goto C (tgt := 182) (by decide) dX7_readUnit_166 ?_
    exact w_X7_readUnit_182 C _ h_0 h_1 h_2 h_3 h_4 h_5 h_6 hf hw (lvh_sub hl [0] rfl)
set_option maxHeartbeats 4000000 in
set_option maxRecDepth 20000 in
theorem w_X7_readUnit_36 (C : Cx p s m args meth c D b cX7_readUnit 4 RX7 (some .boolean)) {r : Int} {μ' : Mem} (rec : Nat → Int → Int → Mem → Option (Int × Mem)) (h_0 : ∀ (x0 x1 : Int) (μ μ' : Mem) (r : Int), isK x0 7 → rec 0 x0 x1 μ = some (r, μ') → Ctr l D b yX7_readAtom cX7_readAtom 2 (some .boolean) (n0 + 2) [(2, x0), (0, x1)] μ (some (.int (jI r))) μ') (h_1 : ∀ (x0 x1 : Int) (μ μ' : Mem) (r : Int), isK x0 7 → rec 1 x0 x1 μ = some (r, μ') → Ctr l D b yX7_readBoth cX7_readBoth 4 (some .boolean) (n0 + 2) [(2, x0), (0, x1)] μ (some (.int (jI r))) μ') (h_2 : ∀ (x0 x1 : Int) (μ μ' : Mem) (r : Int), isK x0 7 → rec 2 x0 x1 μ = some (r, μ') → Ctr l D b yX7_readIf cX7_readIf 3 (some .boolean) (n0 + 2) [(2, x0), (0, x1)] μ (some (.int (jI r))) μ') (h_3 : ∀ (x0 x1 : Int) (μ μ' : Mem) (r : Int), isK x0 7 → rec 3 x0 x1 μ = some (r, μ') → Ctr l D b yX7_readSum cX7_readSum 5 (some .boolean) (n0 + 2) [(2, x0), (0, x1)] μ (some (.int (jI r))) μ') (h_4 : ∀ (x0 x1 : Int) (μ μ' : Mem) (r : Int), isK x0 7 → rec 4 x0 x1 μ = some (r, μ') → Ctr l D b yX7_readTerm cX7_readTerm 4 (some .boolean) (n0 + 2) [(2, x0), (0, x1)] μ (some (.int (jI r))) μ') (h_5 : ∀ (x0 x1 : Int) (μ μ' : Mem) (r : Int), isK x0 7 → rec 5 x0 x1 μ = some (r, μ') → Ctr l D b yX7_readTruth cX7_readTruth 4 (some .boolean) (n0 + 2) [(2, x0), (0, x1)] μ (some (.int (jI r))) μ') (h_6 : ∀ (x0 x1 : Int) (μ μ' : Mem) (r : Int), isK x0 7 → rec 6 x0 x1 μ = some (r, μ') → Ctr l D b yX7_readUnit cX7_readUnit 4 (some .boolean) (n0 + 2) [(2, x0), (0, x1)] μ (some (.int (jI r))) μ') {x0 s0 : Int} {μ : Mem} {H : Heap} {locs : List Loc} {ls : Array Slot} (hf : f_X7_readUnit_j36 rec x0 s0 μ = some (r, μ')) (t0 : isK x0 7) (hw : Hw D b μ s.heap H locs) (hl : lvh b ls 4 [(0, 2, x0)]) : W p l e (rm (n0 + 1 + 2)) s m args below meth c H locs 0 0 (QM below args s D b (some (.int (jI r))) μ') (F0 m 36 ls [.int (jI s0)]) := by
  unfold f_X7_readUnit_j36 at hf
  refine r_istore_n C hl (by decide) (L' := [(2, 0, s0), (0, 2, x0)]) rfl rfl dX7_readUnit_36 (fun ls hl => ?_)
  refine r_aload_n C hl (kx := 1) rfl rfl dX7_readUnit_37 ?_
  refine gf_7_25 C hw t0 dX7_readUnit_38 ?_
  obtain ⟨g1, hf⟩ := gd_some hf
  refine gf_7_142 C hw g1 dX7_readUnit_41 ?_
  refine r_bipush C (by decide) dX7_readUnit_44 ?_
  refine r_iconst C dX7_readUnit_46 ?_
  obtain ⟨r3, μ2, e4, hf⟩ := bn_some hf
  refine r_callVn C hw (K := [(0, 8), (0, 0)]) ok4 (ow_3_14 g1) (c_X4_addStep l D b (ow_3_14 g1) e4) mi_X4_addStep in_X4_addStep se_X4_addStep kl_7_165 rfl rfl (lvh_sz hl) ⟨by simp only [rm]; omega, by simp only [rm]; omega⟩ (Kr := []) rfl (Nat.le_of_ble_eq_true rfl) dX7_readUnit_47 (fun H locs hw => ?_)
  refine r_iload_n C hl (kx := 0) rfl rfl dX7_readUnit_50 ?_
  obtain ⟨g5, hf⟩ := gd_some hf
  exact r_zret C hw g5 hf dX7_readUnit_51
set_option maxHeartbeats 4000000 in
set_option maxRecDepth 20000 in
theorem w_X7_readUnit_35 (C : Cx p s m args meth c D b cX7_readUnit 4 RX7 (some .boolean)) {r : Int} {μ' : Mem} (rec : Nat → Int → Int → Mem → Option (Int × Mem)) (h_0 : ∀ (x0 x1 : Int) (μ μ' : Mem) (r : Int), isK x0 7 → rec 0 x0 x1 μ = some (r, μ') → Ctr l D b yX7_readAtom cX7_readAtom 2 (some .boolean) (n0 + 2) [(2, x0), (0, x1)] μ (some (.int (jI r))) μ') (h_1 : ∀ (x0 x1 : Int) (μ μ' : Mem) (r : Int), isK x0 7 → rec 1 x0 x1 μ = some (r, μ') → Ctr l D b yX7_readBoth cX7_readBoth 4 (some .boolean) (n0 + 2) [(2, x0), (0, x1)] μ (some (.int (jI r))) μ') (h_2 : ∀ (x0 x1 : Int) (μ μ' : Mem) (r : Int), isK x0 7 → rec 2 x0 x1 μ = some (r, μ') → Ctr l D b yX7_readIf cX7_readIf 3 (some .boolean) (n0 + 2) [(2, x0), (0, x1)] μ (some (.int (jI r))) μ') (h_3 : ∀ (x0 x1 : Int) (μ μ' : Mem) (r : Int), isK x0 7 → rec 3 x0 x1 μ = some (r, μ') → Ctr l D b yX7_readSum cX7_readSum 5 (some .boolean) (n0 + 2) [(2, x0), (0, x1)] μ (some (.int (jI r))) μ') (h_4 : ∀ (x0 x1 : Int) (μ μ' : Mem) (r : Int), isK x0 7 → rec 4 x0 x1 μ = some (r, μ') → Ctr l D b yX7_readTerm cX7_readTerm 4 (some .boolean) (n0 + 2) [(2, x0), (0, x1)] μ (some (.int (jI r))) μ') (h_5 : ∀ (x0 x1 : Int) (μ μ' : Mem) (r : Int), isK x0 7 → rec 5 x0 x1 μ = some (r, μ') → Ctr l D b yX7_readTruth cX7_readTruth 4 (some .boolean) (n0 + 2) [(2, x0), (0, x1)] μ (some (.int (jI r))) μ') (h_6 : ∀ (x0 x1 : Int) (μ μ' : Mem) (r : Int), isK x0 7 → rec 6 x0 x1 μ = some (r, μ') → Ctr l D b yX7_readUnit cX7_readUnit 4 (some .boolean) (n0 + 2) [(2, x0), (0, x1)] μ (some (.int (jI r))) μ') {x0 : Int} {μ : Mem} {H : Heap} {locs : List Loc} {ls : Array Slot} (hf : f_X7_readUnit_j35 rec x0 μ = some (r, μ')) (t0 : isK x0 7) (hw : Hw D b μ s.heap H locs) (hl : lvh b ls 4 [(0, 2, x0)]) : W p l e (rm (n0 + 1 + 2)) s m args below meth c H locs 0 0 (QM below args s D b (some (.int (jI r))) μ') (F0 m 35 ls []) := by
  unfold f_X7_readUnit_j35 at hf
  refine r_iconst C dX7_readUnit_35 ?_
  exact w_X7_readUnit_36 C _ h_0 h_1 h_2 h_3 h_4 h_5 h_6 hf t0 hw (lvh_sub hl [0] rfl)
set_option maxHeartbeats 4000000 in
set_option maxRecDepth 20000 in
theorem w_X7_readUnit_0 (C : Cx p s m args meth c D b cX7_readUnit 4 RX7 (some .boolean)) {r : Int} {μ' : Mem} (rec : Nat → Int → Int → Mem → Option (Int × Mem)) (h_0 : ∀ (x0 x1 : Int) (μ μ' : Mem) (r : Int), isK x0 7 → rec 0 x0 x1 μ = some (r, μ') → Ctr l D b yX7_readAtom cX7_readAtom 2 (some .boolean) (n0 + 2) [(2, x0), (0, x1)] μ (some (.int (jI r))) μ') (h_1 : ∀ (x0 x1 : Int) (μ μ' : Mem) (r : Int), isK x0 7 → rec 1 x0 x1 μ = some (r, μ') → Ctr l D b yX7_readBoth cX7_readBoth 4 (some .boolean) (n0 + 2) [(2, x0), (0, x1)] μ (some (.int (jI r))) μ') (h_2 : ∀ (x0 x1 : Int) (μ μ' : Mem) (r : Int), isK x0 7 → rec 2 x0 x1 μ = some (r, μ') → Ctr l D b yX7_readIf cX7_readIf 3 (some .boolean) (n0 + 2) [(2, x0), (0, x1)] μ (some (.int (jI r))) μ') (h_3 : ∀ (x0 x1 : Int) (μ μ' : Mem) (r : Int), isK x0 7 → rec 3 x0 x1 μ = some (r, μ') → Ctr l D b yX7_readSum cX7_readSum 5 (some .boolean) (n0 + 2) [(2, x0), (0, x1)] μ (some (.int (jI r))) μ') (h_4 : ∀ (x0 x1 : Int) (μ μ' : Mem) (r : Int), isK x0 7 → rec 4 x0 x1 μ = some (r, μ') → Ctr l D b yX7_readTerm cX7_readTerm 4 (some .boolean) (n0 + 2) [(2, x0), (0, x1)] μ (some (.int (jI r))) μ') (h_5 : ∀ (x0 x1 : Int) (μ μ' : Mem) (r : Int), isK x0 7 → rec 5 x0 x1 μ = some (r, μ') → Ctr l D b yX7_readTruth cX7_readTruth 4 (some .boolean) (n0 + 2) [(2, x0), (0, x1)] μ (some (.int (jI r))) μ') (h_6 : ∀ (x0 x1 : Int) (μ μ' : Mem) (r : Int), isK x0 7 → rec 6 x0 x1 μ = some (r, μ') → Ctr l D b yX7_readUnit cX7_readUnit 4 (some .boolean) (n0 + 2) [(2, x0), (0, x1)] μ (some (.int (jI r))) μ') {x0 x1 : Int} {μ : Mem} {H : Heap} {locs : List Loc} {ls : Array Slot} (hf : b_X7_readUnit rec x0 x1 μ = some (r, μ')) (t0 : isK x0 7) (hw : Hw D b μ s.heap H locs) (hl : lvh b ls 4 [(0, 2, x0), (1, 0, x1)]) : W p l e (rm (n0 + 1 + 2)) s m args below meth c H locs 0 0 (QM below args s D b (some (.int (jI r))) μ') (F0 m 0 ls []) := by
  unfold b_X7_readUnit at hf
  refine r_aload_n C hl (kx := 0) rfl rfl dX7_readUnit_0 ?_
  refine gf_7_12 C hw t0 dX7_readUnit_1 ?_
  refine gf_7_42 C hw (ow_7_0 t0) dX7_readUnit_4 ?_
  refine r_sipush C (by decide) dX7_readUnit_7 ?_
  refine r_icmp_ne C (tgt := 52) (by decide) dX7_readUnit_10 (fun c1 => ?_) (fun c1 => ?_)
  · have hf := ite_f c1 hf
    refine r_aload_n C hl (kx := 0) rfl rfl dX7_readUnit_52 ?_
    refine gf_7_12 C hw t0 dX7_readUnit_53 ?_
    refine gf_7_42 C hw (ow_7_0 t0) dX7_readUnit_56 ?_
    refine r_bipush C (by decide) dX7_readUnit_59 ?_
    refine r_icmp_ne C (tgt := 97) (by decide) dX7_readUnit_61 (fun c2 => ?_) (fun c2 => ?_)
    · have hf := ite_f c2 hf
      refine r_aload_n C hl (kx := 0) rfl rfl dX7_readUnit_97 ?_
      refine r_iload_n C hl (kx := 1) rfl rfl dX7_readUnit_98 ?_
      obtain ⟨r4, μ3, e5, hf⟩ := bn_some hf
      refine r_callVv C hw (K := [(0, x1)]) ok7 t0 (h_3 _ _ _ _ _ t0 e5) mi_X7_readSum in_X7_readSum se_X7_readSum kl_7_152 rfl rfl (lvh_sz hl) ⟨by simp only [rm]; omega, by simp only [rm]; omega⟩ (Kr := []) rfl (Nat.le_of_ble_eq_true rfl) dX7_readUnit_99 (fun H locs hw => ?_)
      refine r_if_ne C (tgt := 107) (by decide) dX7_readUnit_102 (fun c6 => ?_) (fun c6 => ?_)
      · have hf := ite_f c6 hf
        refine r_aload_n C hl (kx := 0) rfl rfl dX7_readUnit_107 ?_
        refine gf_7_12 C hw t0 dX7_readUnit_108 ?_
        refine gf_7_42 C hw (ow_7_0 t0) dX7_readUnit_111 ?_
        obtain ⟨v7, e8, hf⟩ := nm_some hf
        refine top_i e8 ?_
        refine r_istore_n C hl (by decide) (L' := [(2, 0, v7), (0, 2, x0), (1, 0, x1)]) rfl rfl dX7_readUnit_114 (fun ls hl => ?_)
        refine r_iload_n C hl (kx := 0) rfl rfl dX7_readUnit_115 ?_
        refine r_bipush C (by decide) dX7_readUnit_116 ?_
        refine r_icmp_eq C (tgt := 139) (by decide) dX7_readUnit_118 (fun c9 => ?_) (fun c9 => ?_)
        · have hf := ite_t c9 hf
          exact w_X7_readUnit_139 C _ h_0 h_1 h_2 h_3 h_4 h_5 h_6 hf t0 hw (lvh_sub hl [1, 2, 0] rfl)
        · have hf := ite_f c9 hf
          refine r_iload_n C hl (kx := 0) rfl rfl dX7_readUnit_121 ?_
          refine r_bipush C (by decide) dX7_readUnit_122 ?_
          refine r_icmp_eq C (tgt := 139) (by decide) dX7_readUnit_124 (fun c10 => ?_) (fun c10 => ?_)
          · have hf := ite_t c10 hf
            exact w_X7_readUnit_139 C _ h_0 h_1 h_2 h_3 h_4 h_5 h_6 hf t0 hw (lvh_sub hl [1, 2, 0] rfl)
          · have hf := ite_f c10 hf
            refine r_iload_n C hl (kx := 0) rfl rfl dX7_readUnit_127 ?_
            refine r_bipush C (by decide) dX7_readUnit_128 ?_
            refine r_icmp_eq C (tgt := 139) (by decide) dX7_readUnit_130 (fun c11 => ?_) (fun c11 => ?_)
            · have hf := ite_t c11 hf
              exact w_X7_readUnit_139 C _ h_0 h_1 h_2 h_3 h_4 h_5 h_6 hf t0 hw (lvh_sub hl [1, 2, 0] rfl)
            · have hf := ite_f c11 hf
              refine r_aload_n C hl (kx := 1) rfl rfl dX7_readUnit_133 ?_
              refine r_iconst C dX7_readUnit_134 ?_
              obtain ⟨r13, μ12, e14, hf⟩ := bn_some hf
              refine r_callVv C hw (K := [(0, 2)]) ok7 t0 (c_X7_refuse l D b t0 e14) mi_X7_refuse in_X7_refuse se_X7_refuse kl_7_51 rfl rfl (lvh_sz hl) ⟨by simp only [rm]; omega, by simp only [rm]; omega⟩ (Kr := []) rfl (Nat.le_of_ble_eq_true rfl) dX7_readUnit_135 (fun H locs hw => ?_)
              obtain ⟨g15, hf⟩ := gd_some hf
              exact r_zret C hw g15 hf dX7_readUnit_138
      · have hf := ite_t c6 hf
        refine r_iconst C dX7_readUnit_105 ?_
        exact r_zret C hw (by decide) hf dX7_readUnit_106
    · have hf := ite_t c2 hf
      refine r_aload_n C hl (kx := 0) rfl rfl dX7_readUnit_64 ?_
      refine r_iload_n C hl (kx := 1) rfl rfl dX7_readUnit_65 ?_
      obtain ⟨r17, μ16, e18, hf⟩ := bn_some hf
      refine r_callVv C hw (K := [(0, x1)]) ok7 t0 (c_X7_takeOpening l D b t0 e18) mi_X7_takeOpening in_X7_takeOpening se_X7_takeOpening kl_7_171 rfl rfl (lvh_sz hl) ⟨by simp only [rm]; omega, by simp only [rm]; omega⟩ (Kr := []) rfl (Nat.le_of_ble_eq_true rfl) dX7_readUnit_66 (fun H locs hw => ?_)
      refine r_if_eq C (tgt := 95) (by decide) dX7_readUnit_69 (fun c19 => ?_) (fun c19 => ?_)
      · have hf := ite_t c19 hf
        refine r_iconst C dX7_readUnit_95 ?_
        exact r_zret C hw (by decide) hf dX7_readUnit_96
      · have hf := ite_f c19 hf
        refine r_aload_n C hl (kx := 0) rfl rfl dX7_readUnit_72 ?_
        refine r_iload_n C hl (kx := 1) rfl rfl dX7_readUnit_73 ?_
        refine r_iconst C dX7_readUnit_74 ?_
        refine r_iadd C dX7_readUnit_75 ?_
        obtain ⟨r21, μ20, e22, hf⟩ := bn_some hf
        refine r_callVv C hw (K := [(0, (x1 + 1))]) ok7 t0 (h_5 _ _ _ _ _ t0 e22) mi_X7_readTruth in_X7_readTruth se_X7_readTruth kl_7_159 rfl rfl (lvh_sz hl) ⟨by simp only [rm]; omega, by simp only [rm]; omega⟩ (Kr := []) rfl (Nat.le_of_ble_eq_true rfl) dX7_readUnit_76 (fun H locs hw => ?_)
        refine r_if_eq C (tgt := 95) (by decide) dX7_readUnit_79 (fun c23 => ?_) (fun c23 => ?_)
        · have hf := ite_t c23 hf
          refine r_iconst C dX7_readUnit_95 ?_
          exact r_zret C hw (by decide) hf dX7_readUnit_96
        · have hf := ite_f c23 hf
          refine r_aload_n C hl (kx := 0) rfl rfl dX7_readUnit_82 ?_
          refine r_bipush C (by decide) dX7_readUnit_83 ?_
          obtain ⟨r25, μ24, e26, hf⟩ := bn_some hf
          refine r_callVv C hw (K := [(0, 93)]) ok7 t0 (c_X7_take l D b t0 e26) mi_X7_take in_X7_take se_X7_take kl_7_64 rfl rfl (lvh_sz hl) ⟨by simp only [rm]; omega, by simp only [rm]; omega⟩ (Kr := []) rfl (Nat.le_of_ble_eq_true rfl) dX7_readUnit_85 (fun H locs hw => ?_)
          refine r_if_eq C (tgt := 95) (by decide) dX7_readUnit_88 (fun c27 => ?_) (fun c27 => ?_)
          · have hf := ite_t c27 hf
            refine r_iconst C dX7_readUnit_95 ?_
            exact r_zret C hw (by decide) hf dX7_readUnit_96
          · have hf := ite_f c27 hf
            refine r_iconst C dX7_readUnit_91 ?_
            refine r_goto C (tgt := 96) (by decide) dX7_readUnit_92 ?_
            exact r_zret C hw (by decide) hf dX7_readUnit_96
  · have hf := ite_t c1 hf
    refine r_aload_n C hl (kx := 0) rfl rfl dX7_readUnit_13 ?_
    refine r_iload_n C hl (kx := 1) rfl rfl dX7_readUnit_14 ?_
    obtain ⟨r29, μ28, e30, hf⟩ := bn_some hf
    refine r_callVv C hw (K := [(0, x1)]) ok7 t0 (c_X7_takeOpening l D b t0 e30) mi_X7_takeOpening in_X7_takeOpening se_X7_takeOpening kl_7_171 rfl rfl (lvh_sz hl) ⟨by simp only [rm]; omega, by simp only [rm]; omega⟩ (Kr := []) rfl (Nat.le_of_ble_eq_true rfl) dX7_readUnit_15 (fun H locs hw => ?_)
    refine r_if_eq C (tgt := 35) (by decide) dX7_readUnit_18 (fun c31 => ?_) (fun c31 => ?_)
    · have hf := ite_t c31 hf
      exact w_X7_readUnit_35 C _ h_0 h_1 h_2 h_3 h_4 h_5 h_6 hf t0 hw (lvh_sub hl [0] rfl)
    · have hf := ite_f c31 hf
      refine r_aload_n C hl (kx := 0) rfl rfl dX7_readUnit_21 ?_
      refine r_iload_n C hl (kx := 1) rfl rfl dX7_readUnit_22 ?_
      refine r_iconst C dX7_readUnit_23 ?_
      refine r_iadd C dX7_readUnit_24 ?_
      obtain ⟨r33, μ32, e34, hf⟩ := bn_some hf
      refine r_callVv C hw (K := [(0, (x1 + 1))]) ok7 t0 (h_6 _ _ _ _ _ t0 e34) mi_X7_readUnit in_X7_readUnit se_X7_readUnit kl_7_168 rfl rfl (lvh_sz hl) ⟨by simp only [rm]; omega, by simp only [rm]; omega⟩ (Kr := []) rfl (Nat.le_of_ble_eq_true rfl) dX7_readUnit_25 (fun H locs hw => ?_)
      refine r_if_eq C (tgt := 35) (by decide) dX7_readUnit_28 (fun c35 => ?_) (fun c35 => ?_)
      · have hf := ite_t c35 hf
        exact w_X7_readUnit_35 C _ h_0 h_1 h_2 h_3 h_4 h_5 h_6 hf t0 hw (lvh_sub hl [0] rfl)
      · have hf := ite_f c35 hf
        refine r_iconst C dX7_readUnit_31 ?_
        refine r_goto C (tgt := 36) (by decide) dX7_readUnit_32 ?_
        exact w_X7_readUnit_36 C _ h_0 h_1 h_2 h_3 h_4 h_5 h_6 hf t0 hw (lvh_sub hl [0] rfl)
set_option maxHeartbeats 4000000 in
theorem cg_X7_readAtom (l : Launch) (D : Ds) (b : Nat) : ∀ n0 : Nat, (∀ (x0 x1 : Int) (μ μ' : Mem) (r : Int), isK x0 7 → g_X7_readAtom n0 0 x0 x1 μ = some (r, μ') → Ctr l D b yX7_readAtom cX7_readAtom 2 (some .boolean) (n0 + 2) [(2, x0), (0, x1)] μ (some (.int (jI r))) μ') ∧ (∀ (x0 x1 : Int) (μ μ' : Mem) (r : Int), isK x0 7 → g_X7_readAtom n0 1 x0 x1 μ = some (r, μ') → Ctr l D b yX7_readBoth cX7_readBoth 4 (some .boolean) (n0 + 2) [(2, x0), (0, x1)] μ (some (.int (jI r))) μ') ∧ (∀ (x0 x1 : Int) (μ μ' : Mem) (r : Int), isK x0 7 → g_X7_readAtom n0 2 x0 x1 μ = some (r, μ') → Ctr l D b yX7_readIf cX7_readIf 3 (some .boolean) (n0 + 2) [(2, x0), (0, x1)] μ (some (.int (jI r))) μ') ∧ (∀ (x0 x1 : Int) (μ μ' : Mem) (r : Int), isK x0 7 → g_X7_readAtom n0 3 x0 x1 μ = some (r, μ') → Ctr l D b yX7_readSum cX7_readSum 5 (some .boolean) (n0 + 2) [(2, x0), (0, x1)] μ (some (.int (jI r))) μ') ∧ (∀ (x0 x1 : Int) (μ μ' : Mem) (r : Int), isK x0 7 → g_X7_readAtom n0 4 x0 x1 μ = some (r, μ') → Ctr l D b yX7_readTerm cX7_readTerm 4 (some .boolean) (n0 + 2) [(2, x0), (0, x1)] μ (some (.int (jI r))) μ') ∧ (∀ (x0 x1 : Int) (μ μ' : Mem) (r : Int), isK x0 7 → g_X7_readAtom n0 5 x0 x1 μ = some (r, μ') → Ctr l D b yX7_readTruth cX7_readTruth 4 (some .boolean) (n0 + 2) [(2, x0), (0, x1)] μ (some (.int (jI r))) μ') ∧ (∀ (x0 x1 : Int) (μ μ' : Mem) (r : Int), isK x0 7 → g_X7_readAtom n0 6 x0 x1 μ = some (r, μ') → Ctr l D b yX7_readUnit cX7_readUnit 4 (some .boolean) (n0 + 2) [(2, x0), (0, x1)] μ (some (.int (jI r))) μ') := by
  intro n0
  induction n0 with
  | zero => exact ⟨fun _ _ _ _ _ _ hf => (by cases hf), fun _ _ _ _ _ _ hf => (by cases hf), fun _ _ _ _ _ _ hf => (by cases hf), fun _ _ _ _ _ _ hf => (by cases hf), fun _ _ _ _ _ _ hf => (by cases hf), fun _ _ _ _ _ _ hf => (by cases hf), fun _ _ _ _ _ _ hf => (by cases hf)⟩
  | succ n0 ih =>
    obtain ⟨h_0, h_1, h_2, h_3, h_4, h_5, h_6⟩ := ih
    refine ⟨?_, ?_, ?_, ?_, ?_, ?_, ?_⟩
    · intro x0 x1 μ μ' r t0 hf
      rw [g_X7_readAtom.eq_2] at hf
      have hf := ite_t rfl hf
      refine Ctr.of (by decide +kernel) (Nat.le_of_ble_eq_true rfl) ?_
      intro p e s m below meth c C hw ls hl
      have hq := w_X7_readAtom_0 C (r := r) (μ' := μ') (n0 := n0) (e := e) (below := below) _ h_0 h_1 h_2 h_3 h_4 h_5 h_6 hf t0 hw hl
      exact hq
    · intro x0 x1 μ μ' r t0 hf
      rw [g_X7_readAtom.eq_2] at hf
      have hf := ite_t rfl (ite_f (by decide) hf)
      refine Ctr.of (by decide +kernel) (Nat.le_of_ble_eq_true rfl) ?_
      intro p e s m below meth c C hw ls hl
      have hq := w_X7_readBoth_0 C (r := r) (μ' := μ') (n0 := n0) (e := e) (below := below) _ h_0 h_1 h_2 h_3 h_4 h_5 h_6 hf t0 hw hl
      exact hq
    · intro x0 x1 μ μ' r t0 hf
      rw [g_X7_readAtom.eq_2] at hf
      have hf := ite_t rfl (ite_f (by decide) (ite_f (by decide) hf))
      refine Ctr.of (by decide +kernel) (Nat.le_of_ble_eq_true rfl) ?_
      intro p e s m below meth c C hw ls hl
      have hq := w_X7_readIf_0 C (r := r) (μ' := μ') (n0 := n0) (e := e) (below := below) _ h_0 h_1 h_2 h_3 h_4 h_5 h_6 hf t0 hw hl
      exact hq
    · intro x0 x1 μ μ' r t0 hf
      rw [g_X7_readAtom.eq_2] at hf
      have hf := ite_t rfl (ite_f (by decide) (ite_f (by decide) (ite_f (by decide) hf)))
      refine Ctr.of (by decide +kernel) (Nat.le_of_ble_eq_true rfl) ?_
      intro p e s m below meth c C hw ls hl
      have hq := w_X7_readSum_0 C (r := r) (μ' := μ') (n0 := n0) (e := e) (below := below) _ h_0 h_1 h_2 h_3 h_4 h_5 h_6 hf t0 hw hl
      exact hq
    · intro x0 x1 μ μ' r t0 hf
      rw [g_X7_readAtom.eq_2] at hf
      have hf := ite_t rfl (ite_f (by decide) (ite_f (by decide) (ite_f (by decide) (ite_f (by decide) hf))))
      refine Ctr.of (by decide +kernel) (Nat.le_of_ble_eq_true rfl) ?_
      intro p e s m below meth c C hw ls hl
      have hq := w_X7_readTerm_0 C (r := r) (μ' := μ') (n0 := n0) (e := e) (below := below) _ h_0 h_1 h_2 h_3 h_4 h_5 h_6 hf t0 hw hl
      exact hq
    · intro x0 x1 μ μ' r t0 hf
      rw [g_X7_readAtom.eq_2] at hf
      have hf := ite_t rfl (ite_f (by decide) (ite_f (by decide) (ite_f (by decide) (ite_f (by decide) (ite_f (by decide) hf)))))
      refine Ctr.of (by decide +kernel) (Nat.le_of_ble_eq_true rfl) ?_
      intro p e s m below meth c C hw ls hl
      have hq := w_X7_readTruth_0 C (r := r) (μ' := μ') (n0 := n0) (e := e) (below := below) _ h_0 h_1 h_2 h_3 h_4 h_5 h_6 hf t0 hw hl
      exact hq
    · intro x0 x1 μ μ' r t0 hf
      rw [g_X7_readAtom.eq_2] at hf
      have hf := ite_t rfl (ite_f (by decide) (ite_f (by decide) (ite_f (by decide) (ite_f (by decide) (ite_f (by decide) (ite_f (by decide) hf))))))
      refine Ctr.of (by decide +kernel) (Nat.le_of_ble_eq_true rfl) ?_
      intro p e s m below meth c C hw ls hl
      have hq := w_X7_readUnit_0 C (r := r) (μ' := μ') (n0 := n0) (e := e) (below := below) _ h_0 h_1 h_2 h_3 h_4 h_5 h_6 hf t0 hw hl
      exact hq
theorem c_X7_readAtom (l : Launch) (D : Ds) (b : Nat) {x0 x1 : Int} {μ μ' : Mem} {r : Int} (t0 : isK x0 7) (hf : f_X7_readAtom x0 x1 μ = some (r, μ')) : Ctr l D b yX7_readAtom cX7_readAtom 2 (some .boolean) 66 [(2, x0), (0, x1)] μ (some (.int (jI r))) μ' := (cg_X7_readAtom l D b 64).1 _ _ _ _ _ t0 hf
theorem c_X7_readBoth (l : Launch) (D : Ds) (b : Nat) {x0 x1 : Int} {μ μ' : Mem} {r : Int} (t0 : isK x0 7) (hf : f_X7_readBoth x0 x1 μ = some (r, μ')) : Ctr l D b yX7_readBoth cX7_readBoth 4 (some .boolean) 66 [(2, x0), (0, x1)] μ (some (.int (jI r))) μ' := (cg_X7_readAtom l D b 64).2.1 _ _ _ _ _ t0 hf
theorem c_X7_readIf (l : Launch) (D : Ds) (b : Nat) {x0 x1 : Int} {μ μ' : Mem} {r : Int} (t0 : isK x0 7) (hf : f_X7_readIf x0 x1 μ = some (r, μ')) : Ctr l D b yX7_readIf cX7_readIf 3 (some .boolean) 66 [(2, x0), (0, x1)] μ (some (.int (jI r))) μ' := (cg_X7_readAtom l D b 64).2.2.1 _ _ _ _ _ t0 hf
theorem c_X7_readSum (l : Launch) (D : Ds) (b : Nat) {x0 x1 : Int} {μ μ' : Mem} {r : Int} (t0 : isK x0 7) (hf : f_X7_readSum x0 x1 μ = some (r, μ')) : Ctr l D b yX7_readSum cX7_readSum 5 (some .boolean) 66 [(2, x0), (0, x1)] μ (some (.int (jI r))) μ' := (cg_X7_readAtom l D b 64).2.2.2.1 _ _ _ _ _ t0 hf
theorem c_X7_readTerm (l : Launch) (D : Ds) (b : Nat) {x0 x1 : Int} {μ μ' : Mem} {r : Int} (t0 : isK x0 7) (hf : f_X7_readTerm x0 x1 μ = some (r, μ')) : Ctr l D b yX7_readTerm cX7_readTerm 4 (some .boolean) 66 [(2, x0), (0, x1)] μ (some (.int (jI r))) μ' := (cg_X7_readAtom l D b 64).2.2.2.2.1 _ _ _ _ _ t0 hf
theorem c_X7_readTruth (l : Launch) (D : Ds) (b : Nat) {x0 x1 : Int} {μ μ' : Mem} {r : Int} (t0 : isK x0 7) (hf : f_X7_readTruth x0 x1 μ = some (r, μ')) : Ctr l D b yX7_readTruth cX7_readTruth 4 (some .boolean) 66 [(2, x0), (0, x1)] μ (some (.int (jI r))) μ' := (cg_X7_readAtom l D b 64).2.2.2.2.2.1 _ _ _ _ _ t0 hf
theorem c_X7_readUnit (l : Launch) (D : Ds) (b : Nat) {x0 x1 : Int} {μ μ' : Mem} {r : Int} (t0 : isK x0 7) (hf : f_X7_readUnit x0 x1 μ = some (r, μ')) : Ctr l D b yX7_readUnit cX7_readUnit 4 (some .boolean) 66 [(2, x0), (0, x1)] μ (some (.int (jI r))) μ' := (cg_X7_readAtom l D b 64).2.2.2.2.2.2 _ _ _ _ _ t0 hf
end WALK
