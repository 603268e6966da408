section WALK
variable {p : Program} {l : Launch} {e : Env} {s : State} {m : MethodId} {args : Array Value} {below : List Frame} {meth : Method} {c : Code} {H : Heap} {locs : List Loc} {D : Ds} {b : Nat} {n0 : Nat}
set_option maxHeartbeats 4000000 in
set_option maxRecDepth 20000 in
theorem w_X12_turning_0 (C : Cx p s m args meth c D b cX12_turning 3 RX12 (some .int)) {r : Int} {μ' : Mem} {x0 x1 : Int} {μ : Mem} {H : Heap} {locs : List Loc} {ls : Array Slot} (hf : f_X12_turning x0 x1 μ = some (r, μ')) (t0 : isK x0 12) (hw : Hw D b μ s.heap H locs) (hl : lvh b ls 3 [(0, 2, x0), (1, 0, x1)]) : W p l e (rm 3) s m args below meth c H locs 0 0 (QM below args s D b (some (.int (jI r))) μ') (F0 m 0 ls []) := by
  unfold f_X12_turning at hf
  refine r_aload_n C hl (kx := 0) rfl rfl dX12_turning_0 ?_
  refine r_iconst C dX12_turning_1 ?_
  obtain ⟨μ1, e2, hf⟩ := nm_some hf
  refine pf_12_1 C hw t0 dX12_turning_2 (fun H locs hw => ?_)
  rw [← e2] at hw
  refine r_iload_n C hl (kx := 1) rfl rfl dX12_turning_5 ?_
  refine r_i2l C dX12_turning_6 ?_
  refine r_lconst C (z := 0) (by decide) dX12_turning_7 ?_
  refine r_lconst C (z := 1) (by decide) dX12_turning_8 ?_
  obtain ⟨r4, μ3, e5, hf⟩ := bn_some hf
  refine r_callSv C hw (K := [(1, (nrm x1)), (1, 0), (1, 1)]) (c_X12_within l D b e5) mi_X12_within st_X12_within kl_12_136 rfl rfl (lvh_sz hl) (by decide) (Kr := []) rfl (Nat.le_of_ble_eq_true rfl) dX12_turning_9 (fun H locs hw => ?_)
  refine r_if_ne C (tgt := 18) (by decide) dX12_turning_12 (fun c6 => ?_) (fun c6 => ?_)
  · have hf := ite_f c6 hf
    refine r_aload_n C hl (kx := 0) rfl rfl dX12_turning_18 ?_
    refine r_aload_n C hl (kx := 0) rfl rfl dX12_turning_19 ?_
    refine gf_12_13 C hw t0 dX12_turning_20 ?_
    refine r_bipush C (by decide) dX12_turning_23 ?_
    refine r_iald C hw (n := 3300) (ow_12_1 t0) (j := 65) (by decide) (by decide) (by decide) dX12_turning_25 ?_
    obtain ⟨r8, μ7, e9, hf⟩ := bn_some hf
    refine r_callVv C hw (K := [(0, (μ3 (x0 + 1) 65))]) ok12 t0 (c_X12_turnedTo l D b t0 e9) mi_X12_turnedTo in_X12_turnedTo se_X12_turnedTo kl_12_368 rfl rfl (lvh_sz hl) (by decide) (Kr := []) rfl (Nat.le_of_ble_eq_true rfl) dX12_turning_26 (fun H locs hw => ?_)
    refine r_istore_n C hl (by decide) (L' := [(2, 0, r8), (0, 2, x0), (1, 0, x1)]) rfl rfl dX12_turning_29 (fun ls hl => ?_)
    refine r_iload_n C hl (kx := 2) rfl rfl dX12_turning_30 ?_
    refine r_if_ne C (tgt := 38) (by decide) dX12_turning_31 (fun c10 => ?_) (fun c10 => ?_)
    · have hf := ite_f c10 hf
      refine r_aload_n C hl (kx := 1) rfl rfl dX12_turning_38 ?_
      refine gf_12_365 C hw t0 dX12_turning_39 ?_
      exact r_iret C hw hf dX12_turning_42
    · have hf := ite_t c10 hf
      refine r_iload_n C hl (kx := 0) rfl rfl dX12_turning_34 ?_
      refine r_goto C (tgt := 42) (by decide) dX12_turning_35 ?_
      exact r_iret C hw hf dX12_turning_42
  · have hf := ite_t c6 hf
    refine r_bipush C (by decide) dX12_turning_15 ?_
    exact r_iret C hw hf dX12_turning_17
theorem c_X12_turning (l : Launch) (D : Ds) (b : Nat) {x0 x1 : Int} {μ μ' : Mem} {r : Int} (t0 : isK x0 12) (hf : f_X12_turning x0 x1 μ = some (r, μ')) : Ctr l D b yX12_turning cX12_turning 3 (some .int) 3 [(2, x0), (0, x1)] μ (some (.int (jI r))) μ' := by
  refine Ctr.of (by decide +kernel) (Nat.le_of_ble_eq_true rfl) ?_
  intro p e s m below meth c C hw ls hl
  exact w_X12_turning_0 C hf t0 hw hl
set_option maxHeartbeats 4000000 in
set_option maxRecDepth 20000 in
theorem w_X12_when_38 (C : Cx p s m args meth c D b cX12_when 4 RX12 (some .int)) {r : Int} {μ' : Mem} : ∀ (n : Nat) (x0 x1 x2 x3 : Int) (μ : Mem) (H : Heap) (locs : List Loc) (ls : Array Slot), f_X12_when_w38 n x0 x1 x2 x3 μ = some (r, μ') → isK x0 12 → Hw D b μ s.heap H locs → lvh b ls 4 [(0, 2, x0), (1, 0, x1), (2, 0, x2), (3, 0, x3)] → W p l e (rm 2) s m args below meth c H locs 0 0 (QM below args s D b (some (.int (jI r))) μ') (F0 m 38 ls []) := by
  intro n
  induction n with
  | zero => intro x0 x1 x2 x3 μ H locs ls hf; cases hf
  | succ n ih =>
    intro x0 x1 x2 x3 μ H locs ls hf t0 hw hl
    rw [f_X12_when_w38.eq_2] at hf
    refine r_iload_n C hl (kx := 3) rfl rfl dX12_when_38 ?_
    refine r_bipush C (by decide) dX12_when_39 ?_
    refine r_icmp_gt C (tgt := 67) (by decide) dX12_when_41 (fun c1 => ?_) (fun c1 => ?_)
    · have hf := ite_t c1 hf
      refine r_iconst C dX12_when_67 ?_
      exact r_iret C hw hf dX12_when_68
    · have hf := ite_f c1 hf
      refine r_aload_n C hl (kx := 0) rfl rfl dX12_when_44 ?_
      refine r_iload_n C hl (kx := 2) rfl rfl dX12_when_45 ?_
      obtain ⟨r3, μ2, e4, hf⟩ := bn_some hf
      refine r_callVv C hw (K := [(0, x2)]) ok12 t0 (c_X12_seasonTo l D b t0 e4) mi_X12_seasonTo in_X12_seasonTo se_X12_seasonTo kl_12_267 rfl rfl (lvh_sz hl) (by decide) (Kr := []) rfl (Nat.le_of_ble_eq_true rfl) dX12_when_46 (fun H locs hw => ?_)
      refine r_istore_n C hl (by decide) (L' := [(2, 0, r3), (0, 2, x0), (1, 0, x1), (3, 0, x3)]) rfl rfl dX12_when_49 (fun ls hl => ?_)
      refine r_iload_n C hl (kx := 0) rfl rfl dX12_when_50 ?_
      refine r_i2l C dX12_when_51 ?_
      refine r_iload_n C hl (kx := 2) rfl rfl dX12_when_52 ?_
      obtain ⟨r6, μ5, e7, hf⟩ := bn_some hf
      refine r_callSv C hw (K := [(1, (nrm r3)), (0, x1)]) (c_X12_isIn l D b e7) mi_X12_isIn st_X12_isIn kl_12_322 rfl rfl (lvh_sz hl) (by decide) (Kr := []) rfl (Nat.le_of_ble_eq_true rfl) dX12_when_53 (fun H locs hw => ?_)
      refine r_if_eq C (tgt := 61) (by decide) dX12_when_56 (fun c8 => ?_) (fun c8 => ?_)
      · have hf := ite_t c8 hf
        refine r_iinc C hl (kx := 3) rfl (by decide) (L' := [(3, 0, (x3 + 1)), (2, 0, r3), (0, 2, x0), (1, 0, x1)]) rfl dX12_when_61 (fun ls hl => ?_)
        refine r_goto C (tgt := 38) (by decide) dX12_when_64 ?_
        exact ih _ _ _ _ _ _ _ _ hf t0 hw (lvh_sub hl [2, 3, 1, 0] rfl)
      · have hf := ite_f c8 hf
        refine r_iload_n C hl (kx := 3) rfl rfl dX12_when_59 ?_
        exact r_iret C hw hf dX12_when_60
set_option maxHeartbeats 4000000 in
set_option maxRecDepth 20000 in
theorem w_X12_when_0 (C : Cx p s m args meth c D b cX12_when 4 RX12 (some .int)) {r : Int} {μ' : Mem} {x0 x1 : Int} {μ : Mem} {H : Heap} {locs : List Loc} {ls : Array Slot} (hf : f_X12_when x0 x1 μ = some (r, μ')) (t0 : isK x0 12) (hw : Hw D b μ s.heap H locs) (hl : lvh b ls 4 [(0, 2, x0), (1, 0, x1)]) : W p l e (rm 2) s m args below meth c H locs 0 0 (QM below args s D b (some (.int (jI r))) μ') (F0 m 0 ls []) := by
  unfold f_X12_when at hf
  refine r_aload_n C hl (kx := 0) rfl rfl dX12_when_0 ?_
  refine r_iconst C dX12_when_1 ?_
  obtain ⟨μ1, e2, hf⟩ := nm_some hf
  refine pf_12_1 C hw t0 dX12_when_2 (fun H locs hw => ?_)
  rw [← e2] at hw
  refine r_aload_n C hl (kx := 0) rfl rfl dX12_when_5 ?_
  refine r_iload_n C hl (kx := 1) rfl rfl dX12_when_6 ?_
  refine r_i2l C dX12_when_7 ?_
  obtain ⟨r4, μ3, e5, hf⟩ := bn_some hf
  refine r_callVv C hw (K := [(1, (nrm x1))]) ok12 t0 (c_X12_isPerson l D b t0 e5) mi_X12_isPerson in_X12_isPerson se_X12_isPerson kl_12_262 rfl rfl (lvh_sz hl) (by decide) (Kr := []) rfl (Nat.le_of_ble_eq_true rfl) dX12_when_8 (fun H locs hw => ?_)
  refine r_if_ne C (tgt := 17) (by decide) dX12_when_11 (fun c6 => ?_) (fun c6 => ?_)
  · have hf := ite_f c6 hf
    refine r_aload_n C hl (kx := 0) rfl rfl dX12_when_17 ?_
    refine gf_12_13 C hw t0 dX12_when_18 ?_
    refine r_bipush C (by decide) dX12_when_21 ?_
    refine r_iald C hw (n := 3300) (ow_12_1 t0) (j := 65) (by decide) (by decide) (by decide) dX12_when_23 ?_
    obtain ⟨v7, e8, hf⟩ := nm_some hf
    refine top_i e8 ?_
    refine r_istore_n C hl (by decide) (L' := [(2, 0, v7), (0, 2, x0), (1, 0, x1)]) rfl rfl dX12_when_24 (fun ls hl => ?_)
    refine r_iload_n C hl (kx := 0) rfl rfl dX12_when_25 ?_
    refine r_i2l C dX12_when_26 ?_
    refine r_iload_n C hl (kx := 2) rfl rfl dX12_when_27 ?_
    obtain ⟨r10, μ9, e11, hf⟩ := bn_some hf
    refine r_callSv C hw (K := [(1, (nrm v7)), (0, x1)]) (c_X12_isIn l D b e11) mi_X12_isIn st_X12_isIn kl_12_322 rfl rfl (lvh_sz hl) (by decide) (Kr := []) rfl (Nat.le_of_ble_eq_true rfl) dX12_when_28 (fun H locs hw => ?_)
    refine r_if_eq C (tgt := 36) (by decide) dX12_when_31 (fun c12 => ?_) (fun c12 => ?_)
    · have hf := ite_t c12 hf
      refine r_iconst C dX12_when_36 ?_
      refine r_istore_n C hl (by decide) (L' := [(3, 0, 1), (2, 0, v7), (0, 2, x0), (1, 0, x1)]) rfl rfl dX12_when_37 (fun ls hl => ?_)
      exact w_X12_when_38 C FU _ _ _ _ _ _ _ _ hf t0 hw (lvh_sub hl [2, 3, 1, 0] rfl)
    · have hf := ite_f c12 hf
      refine r_iconst C dX12_when_34 ?_
      exact r_iret C hw hf dX12_when_35
  · have hf := ite_t c6 hf
    refine r_bipush C (by decide) dX12_when_14 ?_
    exact r_iret C hw hf dX12_when_16
theorem c_X12_when (l : Launch) (D : Ds) (b : Nat) {x0 x1 : Int} {μ μ' : Mem} {r : Int} (t0 : isK x0 12) (hf : f_X12_when x0 x1 μ = some (r, μ')) : Ctr l D b yX12_when cX12_when 4 (some .int) 2 [(2, x0), (0, x1)] μ (some (.int (jI r))) μ' := by
  refine Ctr.of (by decide +kernel) (Nat.le_of_ble_eq_true rfl) ?_
  intro p e s m below meth c C hw ls hl
  exact w_X12_when_0 C hf t0 hw hl
set_option maxHeartbeats 4000000 in
set_option maxRecDepth 20000 in
theorem w_X12_starts_94 (C : Cx p s m args meth c D b cX12_starts 5 RX12 (some .int)) {r : Int} {μ' : Mem} (k34 : Int → Int → Int → Int → Int → Mem → Option (Int × Mem)) (h34 : ∀ (x0 x1 x2 x3 x4 : Int) (μ : Mem) (H : Heap) (locs : List Loc) (ls : Array Slot), k34 x0 x1 x2 x3 x4 μ = some (r, μ') → isK x0 12 → Hw D b μ s.heap H locs → lvh b ls 5 [(0, 2, x0), (1, 0, x1), (2, 0, x2), (3, 0, x3), (4, 0, x4)] → W p l e (rm 3) s m args below meth c H locs 0 0 (QM below args s D b (some (.int (jI r))) μ') (F0 m 34 ls [])) {x0 x1 x2 x3 x4 : Int} {μ : Mem} {H : Heap} {locs : List Loc} {ls : Array Slot} (hf : f_X12_starts_j94 k34 x0 x1 x2 x3 x4 μ = some (r, μ')) (t0 : isK x0 12) (hw : Hw D b μ s.heap H locs) (hl : lvh b ls 5 [(0, 2, x0), (1, 0, x1), (2, 0, x2), (3, 0, x3), (4, 0, x4)]) : W p l e (rm 3) s m args below meth c H locs 0 0 (QM below args s D b (some (.int (jI r))) μ') (F0 m 94 ls []) := by
  unfold f_X12_starts_j94 at hf
  refine r_iinc C hl (kx := 4) rfl (by decide) (L' := [(4, 0, (x4 + 1)), (0, 2, x0), (1, 0, x1), (2, 0, x2), (3, 0, x3)]) rfl dX12_starts_94 (fun ls hl => ?_)
  refine r_goto C (tgt := 34) (by decide) dX12_starts_97 ?_
  exact h34 _ _ _ _ _ _ _ _ _ hf t0 hw (lvh_sub hl [1, 2, 3, 4, 0] rfl)
set_option maxHeartbeats 4000000 in
set_option maxRecDepth 20000 in
theorem w_X12_starts_73 (C : Cx p s m args meth c D b cX12_starts 5 RX12 (some .int)) {r : Int} {μ' : Mem} (k34 : Int → Int → Int → Int → Int → Mem → Option (Int × Mem)) (h34 : ∀ (x0 x1 x2 x3 x4 : Int) (μ : Mem) (H : Heap) (locs : List Loc) (ls : Array Slot), k34 x0 x1 x2 x3 x4 μ = some (r, μ') → isK x0 12 → Hw D b μ s.heap H locs → lvh b ls 5 [(0, 2, x0), (1, 0, x1), (2, 0, x2), (3, 0, x3), (4, 0, x4)] → W p l e (rm 3) s m args below meth c H locs 0 0 (QM below args s D b (some (.int (jI r))) μ') (F0 m 34 ls [])) {x0 x1 x2 x3 x4 : Int} {μ : Mem} {H : Heap} {locs : List Loc} {ls : Array Slot} (hf : f_X12_starts_j73 k34 x0 x1 x2 x3 x4 μ = some (r, μ')) (t0 : isK x0 12) (hw : Hw D b μ s.heap H locs) (hl : lvh b ls 5 [(0, 2, x0), (1, 0, x1), (2, 0, x2), (3, 0, x3), (4, 0, x4)]) : W p l e (rm 3) s m args below meth c H locs 0 0 (QM below args s D b (some (.int (jI r))) μ') (F0 m 73 ls []) := by
  unfold f_X12_starts_j73 at hf
  refine r_aload_n C hl (kx := 0) rfl rfl dX12_starts_73 ?_
  refine r_aload_n C hl (kx := 0) rfl rfl dX12_starts_74 ?_
  refine gf_12_13 C hw t0 dX12_starts_75 ?_
  refine r_bipush C (by decide) dX12_starts_78 ?_
  refine r_iald C hw (n := 3300) (ow_12_1 t0) (j := 65) (by decide) (by decide) (by decide) dX12_starts_80 ?_
  refine r_iload C hl (kx := 4) rfl dX12_starts_81 ?_
  refine r_ior C dX12_starts_83 ?_
  obtain ⟨r2, μ1, e3, hf⟩ := bn_some hf
  refine r_callVv C hw (K := [(0, (jor (μ (x0 + 1) 65) x4))]) ok12 t0 (c_X12_turnedTo l D b t0 e3) mi_X12_turnedTo in_X12_turnedTo se_X12_turnedTo kl_12_368 rfl rfl (lvh_sz hl) (by decide) (Kr := []) rfl (Nat.le_of_ble_eq_true rfl) dX12_starts_84 (fun H locs hw => ?_)
  refine r_iload_n C hl (kx := 2) rfl rfl dX12_starts_87 ?_
  refine r_icmp_ne C (tgt := 94) (by decide) dX12_starts_88 (fun c4 => ?_) (fun c4 => ?_)
  · have hf := ite_f c4 hf
    exact w_X12_starts_94 C _ h34 hf t0 hw (lvh_sub hl [0, 1, 2, 3, 4] rfl)
  · have hf := ite_t c4 hf
    refine r_iload C hl (kx := 4) rfl dX12_starts_91 ?_
    refine r_istore_n C hl (by decide) (L' := [(3, 0, x4), (0, 2, x0), (1, 0, x1), (2, 0, x2), (4, 0, x4)]) rfl rfl dX12_starts_93 (fun ls hl => ?_)
    exact w_X12_starts_94 C _ h34 hf t0 hw (lvh_sub hl [1, 2, 3, 0, 4] rfl)
set_option maxHeartbeats 4000000 in
set_option maxRecDepth 20000 in
theorem w_X12_starts_34 (C : Cx p s m args meth c D b cX12_starts 5 RX12 (some .int)) {r : Int} {μ' : Mem} : ∀ (n : Nat) (x0 x1 x2 x3 x4 : Int) (μ : Mem) (H : Heap) (locs : List Loc) (ls : Array Slot), f_X12_starts_w34 n x0 x1 x2 x3 x4 μ = some (r, μ') → isK x0 12 → Hw D b μ s.heap H locs → lvh b ls 5 [(0, 2, x0), (1, 0, x1), (2, 0, x2), (3, 0, x3), (4, 0, x4)] → W p l e (rm 3) s m args below meth c H locs 0 0 (QM below args s D b (some (.int (jI r))) μ') (F0 m 34 ls []) := by
  intro n
  induction n with
  | zero => intro x0 x1 x2 x3 x4 μ H locs ls hf; cases hf
  | succ n ih =>
    intro x0 x1 x2 x3 x4 μ H locs ls hf t0 hw hl
    rw [f_X12_starts_w34.eq_2] at hf
    refine r_iload C hl (kx := 4) rfl dX12_starts_34 ?_
    refine r_iload_n C hl (kx := 2) rfl rfl dX12_starts_36 ?_
    refine r_icmp_gt C (tgt := 100) (by decide) dX12_starts_37 (fun c1 => ?_) (fun c1 => ?_)
    · have hf := ite_t c1 hf
      refine r_iload_n C hl (kx := 1) rfl rfl dX12_starts_100 ?_
      refine r_if_ne C (tgt := 111) (by decide) dX12_starts_101 (fun c2 => ?_) (fun c2 => ?_)
      · have hf := ite_f c2 hf
        refine r_iload_n C hl (kx := 3) rfl rfl dX12_starts_111 ?_
        exact r_iret C hw hf dX12_starts_112
      · have hf := ite_t c2 hf
        refine r_iload_n C hl (kx := 3) rfl rfl dX12_starts_104 ?_
        obtain ⟨r4, μ3, e5, hf⟩ := bn_some hf
        refine r_callSv C hw (K := [(0, x3)]) (c_X12_bitsOf l D b e5) mi_X12_bitsOf st_X12_bitsOf kl_12_212 rfl rfl (lvh_sz hl) (by decide) (Kr := []) rfl (Nat.le_of_ble_eq_true rfl) dX12_starts_105 (fun H locs hw => ?_)
        refine r_goto C (tgt := 112) (by decide) dX12_starts_108 ?_
        exact r_iret C hw hf dX12_starts_112
    · have hf := ite_f c1 hf
      refine r_iload C hl (kx := 4) rfl dX12_starts_40 ?_
      refine r_aload_n C hl (kx := 0) rfl rfl dX12_starts_42 ?_
      refine gf_12_13 C hw t0 dX12_starts_43 ?_
      refine r_bipush C (by decide) dX12_starts_46 ?_
      refine r_iald C hw (n := 3300) (ow_12_1 t0) (j := 65) (by decide) (by decide) (by decide) dX12_starts_48 ?_
      refine r_iand C dX12_starts_49 ?_
      refine r_if_ne C (tgt := 94) (by decide) dX12_starts_50 (fun c6 => ?_) (fun c6 => ?_)
      · have hf := ite_f c6 hf
        exact w_X12_starts_94 C _ ih hf t0 hw (lvh_sub hl [0, 1, 2, 3, 4] rfl)
      · have hf := ite_t c6 hf
        refine r_iload_n C hl (kx := 3) rfl rfl dX12_starts_53 ?_
        refine r_iconst C dX12_starts_54 ?_
        refine r_icmp_eq C (tgt := 73) (by decide) dX12_starts_55 (fun c7 => ?_) (fun c7 => ?_)
        · have hf := ite_t c7 hf
          exact w_X12_starts_73 C _ ih hf t0 hw (lvh_sub hl [0, 1, 2, 3, 4] rfl)
        · have hf := ite_f c7 hf
          refine r_iload C hl (kx := 4) rfl dX12_starts_58 ?_
          obtain ⟨r9, μ8, e10, hf⟩ := bn_some hf
          refine r_callSv C hw (K := [(0, x4)]) (c_X12_bitsOf l D b e10) mi_X12_bitsOf st_X12_bitsOf kl_12_212 rfl rfl (lvh_sz hl) (by decide) (Kr := []) rfl (Nat.le_of_ble_eq_true rfl) dX12_starts_60 (fun H locs hw => ?_)
          refine r_iload_n C hl (kx := 3) rfl rfl dX12_starts_63 ?_
          obtain ⟨r12, μ11, e13, hf⟩ := bn_some hf
          refine r_callSv C hw (K := [(0, x3)]) (c_X12_bitsOf l D b e13) mi_X12_bitsOf st_X12_bitsOf kl_12_212 rfl rfl (lvh_sz hl) (by decide) (Kr := [(0, r9)]) rfl (Nat.le_of_ble_eq_true rfl) dX12_starts_64 (fun H locs hw => ?_)
          refine r_icmp_lt C (tgt := 73) (by decide) dX12_starts_67 (fun c14 => ?_) (fun c14 => ?_)
          · have hf := ite_t c14 hf
            exact w_X12_starts_73 C _ ih hf t0 hw (lvh_sub hl [0, 1, 2, 3, 4] rfl)
          · have hf := ite_f c14 hf
            refine r_goto C (tgt := 94) (by decide) dX12_starts_70 ?_
            exact w_X12_starts_94 C _ ih hf t0 hw (lvh_sub hl [0, 1, 2, 3, 4] rfl)
set_option maxHeartbeats 4000000 in
set_option maxRecDepth 20000 in
theorem w_X12_starts_0 (C : Cx p s m args meth c D b cX12_starts 5 RX12 (some .int)) {r : Int} {μ' : Mem} {x0 x1 : Int} {μ : Mem} {H : Heap} {locs : List Loc} {ls : Array Slot} (hf : f_X12_starts x0 x1 μ = some (r, μ')) (t0 : isK x0 12) (hw : Hw D b μ s.heap H locs) (hl : lvh b ls 5 [(0, 2, x0), (1, 0, x1)]) : W p l e (rm 3) s m args below meth c H locs 0 0 (QM below args s D b (some (.int (jI r))) μ') (F0 m 0 ls []) := by
  unfold f_X12_starts at hf
  refine r_aload_n C hl (kx := 0) rfl rfl dX12_starts_0 ?_
  refine r_iconst C dX12_starts_1 ?_
  obtain ⟨μ1, e2, hf⟩ := nm_some hf
  refine pf_12_1 C hw t0 dX12_starts_2 (fun H locs hw => ?_)
  rw [← e2] at hw
  refine r_iload_n C hl (kx := 1) rfl rfl dX12_starts_5 ?_
  refine r_i2l C dX12_starts_6 ?_
  refine r_lconst C (z := 0) (by decide) dX12_starts_7 ?_
  refine r_lconst C (z := 1) (by decide) dX12_starts_8 ?_
  obtain ⟨r4, μ3, e5, hf⟩ := bn_some hf
  refine r_callSv C hw (K := [(1, (nrm x1)), (1, 0), (1, 1)]) (c_X12_within l D b e5) mi_X12_within st_X12_within kl_12_136 rfl rfl (lvh_sz hl) (by decide) (Kr := []) rfl (Nat.le_of_ble_eq_true rfl) dX12_starts_9 (fun H locs hw => ?_)
  refine r_if_ne C (tgt := 18) (by decide) dX12_starts_12 (fun c6 => ?_) (fun c6 => ?_)
  · have hf := ite_f c6 hf
    refine r_iconst C dX12_starts_18 ?_
    refine r_aload_n C hl (kx := 0) rfl rfl dX12_starts_19 ?_
    refine gf_12_13 C hw t0 dX12_starts_20 ?_
    refine r_iconst C dX12_starts_23 ?_
    refine r_iald C hw (n := 3300) (ow_12_1 t0) (j := 3) (by decide) (by decide) (by decide) dX12_starts_24 ?_
    refine r_ishl C dX12_starts_25 ?_
    refine r_iconst C dX12_starts_26 ?_
    refine r_isub C dX12_starts_27 ?_
    obtain ⟨v7, e8, hf⟩ := nm_some hf
    refine top_i e8 ?_
    refine r_istore_n C hl (by decide) (L' := [(2, 0, v7), (0, 2, x0), (1, 0, x1)]) rfl rfl dX12_starts_28 (fun ls hl => ?_)
    refine r_iconst C dX12_starts_29 ?_
    refine r_istore_n C hl (by decide) (L' := [(3, 0, (-1)), (2, 0, v7), (0, 2, x0), (1, 0, x1)]) rfl rfl dX12_starts_30 (fun ls hl => ?_)
    refine r_iconst C dX12_starts_31 ?_
    refine r_istore C hl (by decide) (L' := [(4, 0, 0), (3, 0, (-1)), (2, 0, v7), (0, 2, x0), (1, 0, x1)]) rfl dX12_starts_32 (fun ls hl => ?_)
    exact w_X12_starts_34 C FU _ _ _ _ _ _ _ _ _ hf t0 hw (lvh_sub hl [3, 4, 2, 1, 0] rfl)
  · have hf := ite_t c6 hf
    refine r_bipush C (by decide) dX12_starts_15 ?_
    exact r_iret C hw hf dX12_starts_17
theorem c_X12_starts (l : Launch) (D : Ds) (b : Nat) {x0 x1 : Int} {μ μ' : Mem} {r : Int} (t0 : isK x0 12) (hf : f_X12_starts x0 x1 μ = some (r, μ')) : Ctr l D b yX12_starts cX12_starts 5 (some .int) 3 [(2, x0), (0, x1)] μ (some (.int (jI r))) μ' := by
  refine Ctr.of (by decide +kernel) (Nat.le_of_ble_eq_true rfl) ?_
  intro p e s m below meth c C hw ls hl
  exact w_X12_starts_0 C hf t0 hw hl
set_option maxHeartbeats 4000000 in
set_option maxRecDepth 20000 in
theorem w_X12_noWorn_34 (C : Cx p s m args meth c D b cX12_noWorn 6 RX12 (some .int)) {r : Int} {μ' : Mem} : ∀ (n : Nat) (x0 x1 x3 : Int) (μ : Mem) (H : Heap) (locs : List Loc) (ls : Array Slot), f_X12_noWorn_w34 n x0 x1 x3 μ = some (r, μ') → isK x0 12 → Hw D b μ s.heap H locs → lvh b ls 6 [(0, 2, x0), (1, 0, x1), (3, 0, x3)] → W p l e (rm 2) s m args below meth c H locs 0 0 (QM below args s D b (some (.int (jI r))) μ') (F0 m 34 ls []) := by
  intro n
  induction n with
  | zero => intro x0 x1 x3 μ H locs ls hf; cases hf
  | succ n ih =>
    intro x0 x1 x3 μ H locs ls hf t0 hw hl
    rw [f_X12_noWorn_w34.eq_2] at hf
    refine r_iload_n C hl (kx := 2) rfl rfl dX12_noWorn_34 ?_
    refine r_aload_n C hl (kx := 0) rfl rfl dX12_noWorn_35 ?_
    refine gf_12_63 C hw t0 dX12_noWorn_36 ?_
    refine r_iload_n C hl (kx := 1) rfl rfl dX12_noWorn_39 ?_
    obtain ⟨g1, hf⟩ := gd_some hf
    refine r_iald C hw (n := 4) (ow_12_30 t0) (j := (nrm x1)) rfl g1 (by decide) dX12_noWorn_40 ?_
    refine r_icmp_ge C (tgt := 99) (by decide) dX12_noWorn_41 (fun c2 => ?_) (fun c2 => ?_)
    · have hf := ite_t c2 hf
      refine r_iconst C dX12_noWorn_99 ?_
      exact r_iret C hw hf dX12_noWorn_100
    · have hf := ite_f c2 hf
      refine r_aload_n C hl (kx := 0) rfl rfl dX12_noWorn_44 ?_
      refine gf_12_66 C hw t0 dX12_noWorn_45 ?_
      refine r_bipush C (by decide) dX12_noWorn_48 ?_
      refine r_iload_n C hl (kx := 1) rfl rfl dX12_noWorn_50 ?_
      refine r_imul C dX12_noWorn_51 ?_
      refine r_iload_n C hl (kx := 2) rfl rfl dX12_noWorn_52 ?_
      refine r_iadd C dX12_noWorn_53 ?_
      obtain ⟨g3, hf⟩ := gd_some hf
      refine r_lald C hw (n := 160) (ow_12_31 t0) (j := (nrm ((40 * x1) + x3))) rfl g3 (by decide) dX12_noWorn_54 ?_
      obtain ⟨v4, e5, hf⟩ := nm_some hf
      refine top_l e5 ?_
      refine r_lstore C hl (by decide) (L' := [(4, 1, v4), (0, 2, x0), (1, 0, x1), (3, 0, x3)]) rfl dX12_noWorn_55 (fun ls hl => ?_)
      refine r_lload C hl (kx := 0) rfl dX12_noWorn_57 ?_
      refine r_lconst C (z := 0) (by decide) dX12_noWorn_59 ?_
      refine r_lcmp C dX12_noWorn_60 ?_
      refine r_if_lt C (tgt := 90) (by decide) dX12_noWorn_61 (fun c6 => ?_) (fun c6 => ?_)
      · have hf := ite_t c6 hf
        refine r_bipush C (by decide) dX12_noWorn_90 ?_
        exact r_iret C hw hf dX12_noWorn_92
      · have hf := ite_f c6 hf
        refine r_aload_n C hl (kx := 1) rfl rfl dX12_noWorn_64 ?_
        refine r_lload C hl (kx := 0) rfl dX12_noWorn_65 ?_
        refine r_ldc2 C (z := 10) (by decide) kw1691 dX12_noWorn_67 ?_
        refine r_ldiv C (by decide) dX12_noWorn_70 ?_
        obtain ⟨r8, μ7, e9, hf⟩ := bn_some hf
        refine r_callVv C hw (K := [(1, (kdiv v4 10))]) ok12 t0 (c_X12_isLane l D b t0 e9) mi_X12_isLane in_X12_isLane se_X12_isLane kl_12_226 rfl rfl (lvh_sz hl) (by decide) (Kr := []) rfl (Nat.le_of_ble_eq_true rfl) dX12_noWorn_71 (fun H locs hw => ?_)
        refine r_if_eq C (tgt := 90) (by decide) dX12_noWorn_74 (fun c10 => ?_) (fun c10 => ?_)
        · have hf := ite_t c10 hf
          refine r_bipush C (by decide) dX12_noWorn_90 ?_
          exact r_iret C hw hf dX12_noWorn_92
        · have hf := ite_f c10 hf
          refine r_lload C hl (kx := 0) rfl dX12_noWorn_77 ?_
          refine r_ldc2 C (z := 10) (by decide) kw1691 dX12_noWorn_79 ?_
          refine r_lrem C (by decide) dX12_noWorn_82 ?_
          refine r_ldc2 C (z := 6) (by decide) kw1780 dX12_noWorn_83 ?_
          refine r_lcmp C dX12_noWorn_86 ?_
          refine r_if_le C (tgt := 93) (by decide) dX12_noWorn_87 (fun c11 => ?_) (fun c11 => ?_)
          · have hf := ite_t c11 hf
            refine r_iinc C hl (kx := 3) rfl (by decide) (L' := [(3, 0, (x3 + 1)), (4, 1, v4), (0, 2, x0), (1, 0, x1)]) rfl dX12_noWorn_93 (fun ls hl => ?_)
            refine r_goto C (tgt := 34) (by decide) dX12_noWorn_96 ?_
            exact ih _ _ _ _ _ _ _ hf t0 hw (lvh_sub hl [2, 3, 0] rfl)
          · have hf := ite_f c11 hf
            refine r_bipush C (by decide) dX12_noWorn_90 ?_
            exact r_iret C hw hf dX12_noWorn_92
set_option maxHeartbeats 4000000 in
set_option maxRecDepth 20000 in
theorem w_X12_noWorn_0 (C : Cx p s m args meth c D b cX12_noWorn 6 RX12 (some .int)) {r : Int} {μ' : Mem} {x0 x1 : Int} {μ : Mem} {H : Heap} {locs : List Loc} {ls : Array Slot} (hf : f_X12_noWorn x0 x1 μ = some (r, μ')) (t0 : isK x0 12) (hw : Hw D b μ s.heap H locs) (hl : lvh b ls 6 [(0, 2, x0), (1, 0, x1)]) : W p l e (rm 2) s m args below meth c H locs 0 0 (QM below args s D b (some (.int (jI r))) μ') (F0 m 0 ls []) := by
  unfold f_X12_noWorn at hf
  refine r_aload_n C hl (kx := 0) rfl rfl dX12_noWorn_0 ?_
  refine r_iload_n C hl (kx := 1) rfl rfl dX12_noWorn_1 ?_
  obtain ⟨r2, μ1, e3, hf⟩ := bn_some hf
  refine r_callVv C hw (K := [(0, x1)]) ok12 t0 (c_X12_noTray l D b t0 e3) mi_X12_noTray in_X12_noTray se_X12_noTray kl_12_299 rfl rfl (lvh_sz hl) (by decide) (Kr := []) rfl (Nat.le_of_ble_eq_true rfl) dX12_noWorn_2 (fun H locs hw => ?_)
  refine r_istore_n C hl (by decide) (L' := [(2, 0, r2), (0, 2, x0), (1, 0, x1)]) rfl rfl dX12_noWorn_5 (fun ls hl => ?_)
  refine r_iload_n C hl (kx := 0) rfl rfl dX12_noWorn_6 ?_
  refine r_if_eq C (tgt := 12) (by decide) dX12_noWorn_7 (fun c4 => ?_) (fun c4 => ?_)
  · have hf := ite_t c4 hf
    refine r_aload_n C hl (kx := 1) rfl rfl dX12_noWorn_12 ?_
    refine gf_12_63 C hw t0 dX12_noWorn_13 ?_
    refine r_iload_n C hl (kx := 2) rfl rfl dX12_noWorn_16 ?_
    obtain ⟨g5, hf⟩ := gd_some hf
    refine r_iald C hw (n := 4) (ow_12_30 t0) (j := (nrm x1)) rfl g5 (by decide) dX12_noWorn_17 ?_
    refine r_i2l C dX12_noWorn_18 ?_
    refine r_lconst C (z := 1) (by decide) dX12_noWorn_19 ?_
    refine r_ldc2 C (z := 8) (by decide) kw1857 dX12_noWorn_20 ?_
    obtain ⟨r7, μ6, e8, hf⟩ := bn_some hf
    refine r_callSv C hw (K := [(1, (nrm (μ1 (x0 + 16) (nrm x1)))), (1, 1), (1, 8)]) (c_X12_within l D b e8) mi_X12_within st_X12_within kl_12_136 rfl rfl (lvh_sz hl) (by decide) (Kr := []) rfl (Nat.le_of_ble_eq_true rfl) dX12_noWorn_23 (fun H locs hw => ?_)
    refine r_if_ne C (tgt := 32) (by decide) dX12_noWorn_26 (fun c9 => ?_) (fun c9 => ?_)
    · have hf := ite_f c9 hf
      refine r_iconst C dX12_noWorn_32 ?_
      refine r_istore_n C hl (by decide) (L' := [(3, 0, 0), (2, 0, r2), (0, 2, x0), (1, 0, x1)]) rfl rfl dX12_noWorn_33 (fun ls hl => ?_)
      exact w_X12_noWorn_34 C FU _ _ _ _ _ _ _ hf t0 hw (lvh_sub hl [2, 3, 0] rfl)
    · have hf := ite_t c9 hf
      refine r_bipush C (by decide) dX12_noWorn_29 ?_
      exact r_iret C hw hf dX12_noWorn_31
  · have hf := ite_f c4 hf
    refine r_iload_n C hl (kx := 0) rfl rfl dX12_noWorn_10 ?_
    exact r_iret C hw hf dX12_noWorn_11
theorem c_X12_noWorn (l : Launch) (D : Ds) (b : Nat) {x0 x1 : Int} {μ μ' : Mem} {r : Int} (t0 : isK x0 12) (hf : f_X12_noWorn x0 x1 μ = some (r, μ')) : Ctr l D b yX12_noWorn cX12_noWorn 6 (some .int) 2 [(2, x0), (0, x1)] μ (some (.int (jI r))) μ' := by
  refine Ctr.of (by decide +kernel) (Nat.le_of_ble_eq_true rfl) ?_
  intro p e s m below meth c C hw ls hl
  exact w_X12_noWorn_0 C hf t0 hw hl
set_option maxHeartbeats 4000000 in
set_option maxRecDepth 20000 in
theorem w_X12_rainsOf_102 (C : Cx p s m args meth c D b cX12_rainsOf 7 RX12 (some .int)) {r : Int} {μ' : Mem} (k4 : Int → Int → Int → Int → Mem → Option (Int × Mem)) (h4 : ∀ (x0 x1 x2 x3 : Int) (μ : Mem) (H : Heap) (locs : List Loc) (ls : Array Slot), k4 x0 x1 x2 x3 μ = some (r, μ') → isK x0 12 → Hw D b μ s.heap H locs → lvh b ls 7 [(0, 2, x0), (1, 0, x1), (2, 0, x2), (3, 0, x3)] → W p l e (rm 3) s m args below meth c H locs 0 0 (QM below args s D b (some (.int (jI r))) μ') (F0 m 4 ls [])) {x0 x1 x3 s0 s1 : Int} {μ : Mem} {H : Heap} {locs : List Loc} {ls : Array Slot} (hf : f_X12_rainsOf_j102 k4 x0 x1 x3 s0 s1 μ = some (r, μ')) (t0 : isK x0 12) (hw : Hw D b μ s.heap H locs) (hl : lvh b ls 7 [(0, 2, x0), (1, 0, x1), (3, 0, x3)]) : W p l e (rm 3) s m args below meth c H locs 0 0 (QM below args s D b (some (.int (jI r))) μ') (F0 m 102 ls [.int (jI s1), .int (jI s0)]) := by
  unfold f_X12_rainsOf_j102 at hf
  refine r_ior C dX12_rainsOf_102 ?_
  obtain ⟨v1, e2, hf⟩ := nm_some hf
  refine top_i e2 ?_
  refine r_istore_n C hl (by decide) (L' := [(2, 0, v1), (0, 2, x0), (1, 0, x1), (3, 0, x3)]) rfl rfl dX12_rainsOf_103 (fun ls hl => ?_)
  refine r_iinc C hl (kx := 3) rfl (by decide) (L' := [(3, 0, (x3 + 1)), (2, 0, v1), (0, 2, x0), (1, 0, x1)]) rfl dX12_rainsOf_104 (fun ls hl => ?_)
  refine r_goto C (tgt := 4) (by decide) dX12_rainsOf_107 ?_
  exact h4 _ _ _ _ _ _ _ _ hf t0 hw (lvh_sub hl [2, 3, 1, 0] rfl)
set_option maxHeartbeats 4000000 in
set_option maxRecDepth 20000 in
theorem w_X12_rainsOf_80 (C : Cx p s m args meth c D b cX12_rainsOf 7 RX12 (some .int)) {r : Int} {μ' : Mem} (k4 : Int → Int → Int → Int → Mem → Option (Int × Mem)) (h4 : ∀ (x0 x1 x2 x3 : Int) (μ : Mem) (H : Heap) (locs : List Loc) (ls : Array Slot), k4 x0 x1 x2 x3 μ = some (r, μ') → isK x0 12 → Hw D b μ s.heap H locs → lvh b ls 7 [(0, 2, x0), (1, 0, x1), (2, 0, x2), (3, 0, x3)] → W p l e (rm 3) s m args below meth c H locs 0 0 (QM below args s D b (some (.int (jI r))) μ') (F0 m 4 ls [])) (k16 : Int → Int → Int → Int → Int → Int → Mem → Option (Int × Mem)) (h16 : ∀ (x0 x1 x2 x3 x4 x5 : Int) (μ : Mem) (H : Heap) (locs : List Loc) (ls : Array Slot), k16 x0 x1 x2 x3 x4 x5 μ = some (r, μ') → isK x0 12 → Hw D b μ s.heap H locs → lvh b ls 7 [(0, 2, x0), (1, 0, x1), (2, 0, x2), (3, 0, x3), (4, 0, x4), (5, 0, x5)] → W p l e (rm 3) s m args below meth c H locs 0 0 (QM below args s D b (some (.int (jI r))) μ') (F0 m 16 ls [])) {x0 x1 x2 x3 x5 s0 s1 : Int} {μ : Mem} {H : Heap} {locs : List Loc} {ls : Array Slot} (hf : f_X12_rainsOf_j80 k4 k16 x0 x1 x2 x3 x5 s0 s1 μ = some (r, μ')) (t0 : isK x0 12) (hw : Hw D b μ s.heap H locs) (hl : lvh b ls 7 [(0, 2, x0), (1, 0, x1), (2, 0, x2), (3, 0, x3), (5, 0, x5)]) : W p l e (rm 3) s m args below meth c H locs 0 0 (QM below args s D b (some (.int (jI r))) μ') (F0 m 80 ls [.int (jI s1), .int (jI s0)]) := by
  unfold f_X12_rainsOf_j80 at hf
  refine r_iand C dX12_rainsOf_80 ?_
  obtain ⟨v1, e2, hf⟩ := nm_some hf
  refine top_i e2 ?_
  refine r_istore C hl (by decide) (L' := [(4, 0, v1), (0, 2, x0), (1, 0, x1), (2, 0, x2), (3, 0, x3), (5, 0, x5)]) rfl dX12_rainsOf_81 (fun ls hl => ?_)
  refine r_iinc C hl (kx := 5) rfl (by decide) (L' := [(5, 0, (x5 + 1)), (4, 0, v1), (0, 2, x0), (1, 0, x1), (2, 0, x2), (3, 0, x3)]) rfl dX12_rainsOf_83 (fun ls hl => ?_)
  refine r_goto C (tgt := 16) (by decide) dX12_rainsOf_86 ?_
  exact h16 _ _ _ _ _ _ _ _ _ _ hf t0 hw (lvh_sub hl [2, 3, 4, 5, 1, 0] rfl)
set_option maxHeartbeats 4000000 in
set_option maxRecDepth 20000 in
theorem w_X12_rainsOf_16 (C : Cx p s m args meth c D b cX12_rainsOf 7 RX12 (some .int)) {r : Int} {μ' : Mem} (k4 : Int → Int → Int → Int → Mem → Option (Int × Mem)) (h4 : ∀ (x0 x1 x2 x3 : Int) (μ : Mem) (H : Heap) (locs : List Loc) (ls : Array Slot), k4 x0 x1 x2 x3 μ = some (r, μ') → isK x0 12 → Hw D b μ s.heap H locs → lvh b ls 7 [(0, 2, x0), (1, 0, x1), (2, 0, x2), (3, 0, x3)] → W p l e (rm 3) s m args below meth c H locs 0 0 (QM below args s D b (some (.int (jI r))) μ') (F0 m 4 ls [])) : ∀ (n : Nat) (x0 x1 x2 x3 x4 x5 : Int) (μ : Mem) (H : Heap) (locs : List Loc) (ls : Array Slot), f_X12_rainsOf_w16 k4 n x0 x1 x2 x3 x4 x5 μ = some (r, μ') → isK x0 12 → Hw D b μ s.heap H locs → lvh b ls 7 [(0, 2, x0), (1, 0, x1), (2, 0, x2), (3, 0, x3), (4, 0, x4), (5, 0, x5)] → W p l e (rm 3) s m args below meth c H locs 0 0 (QM below args s D b (some (.int (jI r))) μ') (F0 m 16 ls []) := by
  intro n
  induction n with
  | zero => intro x0 x1 x2 x3 x4 x5 μ H locs ls hf; cases hf
  | succ n ih =>
    intro x0 x1 x2 x3 x4 x5 μ H locs ls hf t0 hw hl
    rw [f_X12_rainsOf_w16.eq_2] at hf
    refine r_iload C hl (kx := 5) rfl dX12_rainsOf_16 ?_
    refine r_aload_n C hl (kx := 0) rfl rfl dX12_rainsOf_18 ?_
    refine gf_12_63 C hw t0 dX12_rainsOf_19 ?_
    refine r_iload_n C hl (kx := 1) rfl rfl dX12_rainsOf_22 ?_
    obtain ⟨g1, hf⟩ := gd_some hf
    refine r_iald C hw (n := 4) (ow_12_30 t0) (j := (nrm x1)) rfl g1 (by decide) dX12_rainsOf_23 ?_
    refine r_icmp_ge C (tgt := 89) (by decide) dX12_rainsOf_24 (fun c2 => ?_) (fun c2 => ?_)
    · have hf := ite_t c2 hf
      refine r_iload_n C hl (kx := 2) rfl rfl dX12_rainsOf_89 ?_
      refine r_iload C hl (kx := 4) rfl dX12_rainsOf_90 ?_
      refine r_if_eq C (tgt := 101) (by decide) dX12_rainsOf_92 (fun c3 => ?_) (fun c3 => ?_)
      · have hf := ite_t c3 hf
        refine r_iconst C dX12_rainsOf_101 ?_
        exact w_X12_rainsOf_102 C _ h4 hf t0 hw (lvh_sub hl [0, 1, 3] rfl)
      · have hf := ite_f c3 hf
        refine r_iconst C dX12_rainsOf_95 ?_
        refine r_iload_n C hl (kx := 3) rfl rfl dX12_rainsOf_96 ?_
        refine r_ishl C dX12_rainsOf_97 ?_
        refine r_goto C (tgt := 102) (by decide) dX12_rainsOf_98 ?_
        exact w_X12_rainsOf_102 C _ h4 hf t0 hw (lvh_sub hl [0, 1, 3] rfl)
    · have hf := ite_f c2 hf
      refine r_aload_n C hl (kx := 0) rfl rfl dX12_rainsOf_27 ?_
      refine gf_12_66 C hw t0 dX12_rainsOf_28 ?_
      refine r_bipush C (by decide) dX12_rainsOf_31 ?_
      refine r_iload_n C hl (kx := 1) rfl rfl dX12_rainsOf_33 ?_
      refine r_imul C dX12_rainsOf_34 ?_
      refine r_iload C hl (kx := 5) rfl dX12_rainsOf_35 ?_
      refine r_iadd C dX12_rainsOf_37 ?_
      obtain ⟨g4, hf⟩ := gd_some hf
      refine r_lald C hw (n := 160) (ow_12_31 t0) (j := (nrm ((40 * x1) + x5))) rfl g4 (by decide) dX12_rainsOf_38 ?_
      refine r_l2i C dX12_rainsOf_39 ?_
      obtain ⟨v5, e6, hf⟩ := nm_some hf
      refine top_i e6 ?_
      refine r_istore C hl (by decide) (L' := [(6, 0, v5), (0, 2, x0), (1, 0, x1), (2, 0, x2), (3, 0, x3), (4, 0, x4), (5, 0, x5)]) rfl dX12_rainsOf_40 (fun ls hl => ?_)
      refine r_iload C hl (kx := 5) rfl dX12_rainsOf_42 ?_
      refine r_aload_n C hl (kx := 1) rfl rfl dX12_rainsOf_44 ?_
      refine r_iload C hl (kx := 0) rfl dX12_rainsOf_45 ?_
      refine r_bipush C (by decide) dX12_rainsOf_47 ?_
      refine r_idiv C (by decide) dX12_rainsOf_49 ?_
      refine r_aload_n C hl (kx := 1) rfl rfl dX12_rainsOf_50 ?_
      refine gf_12_13 C hw t0 dX12_rainsOf_51 ?_
      refine r_bipush C (by decide) dX12_rainsOf_54 ?_
      refine r_iload C hl (kx := 0) rfl dX12_rainsOf_56 ?_
      refine r_bipush C (by decide) dX12_rainsOf_58 ?_
      refine r_idiv C (by decide) dX12_rainsOf_60 ?_
      refine r_iadd C dX12_rainsOf_61 ?_
      obtain ⟨g7, hf⟩ := gd_some hf
      refine r_iald C hw (n := 3300) (ow_12_1 t0) (j := (nrm (56 + (jdiv v5 10)))) rfl g7 (by decide) dX12_rainsOf_62 ?_
      refine r_iload_n C hl (kx := 4) rfl rfl dX12_rainsOf_63 ?_
      obtain ⟨r9, μ8, e10, hf⟩ := bn_some hf
      refine r_callVv C hw (K := [(0, (jdiv v5 10)), (0, (μ (x0 + 1) (nrm (56 + (jdiv v5 10))))), (0, x3)]) ok12 t0 (c_X12_wornTo l D b t0 e10) mi_X12_wornTo in_X12_wornTo se_X12_wornTo kl_12_240 rfl rfl (lvh_sz hl) (by decide) (Kr := [(0, x4)]) rfl (Nat.le_of_ble_eq_true rfl) dX12_rainsOf_64 (fun H locs hw => ?_)
      refine r_iload C hl (kx := 0) rfl dX12_rainsOf_67 ?_
      refine r_bipush C (by decide) dX12_rainsOf_69 ?_
      refine r_irem C (by decide) dX12_rainsOf_71 ?_
      refine r_icmp_ne C (tgt := 79) (by decide) dX12_rainsOf_72 (fun c11 => ?_) (fun c11 => ?_)
      · have hf := ite_f c11 hf
        refine r_iconst C dX12_rainsOf_79 ?_
        exact w_X12_rainsOf_80 C _ h4 _ ih hf t0 hw (lvh_sub hl [1, 2, 3, 4, 6] rfl)
      · have hf := ite_t c11 hf
        refine r_iconst C dX12_rainsOf_75 ?_
        refine r_goto C (tgt := 80) (by decide) dX12_rainsOf_76 ?_
        exact w_X12_rainsOf_80 C _ h4 _ ih hf t0 hw (lvh_sub hl [1, 2, 3, 4, 6] rfl)
set_option maxHeartbeats 4000000 in
set_option maxRecDepth 20000 in
theorem w_X12_rainsOf_4 (C : Cx p s m args meth c D b cX12_rainsOf 7 RX12 (some .int)) {r : Int} {μ' : Mem} : ∀ (n : Nat) (x0 x1 x2 x3 : Int) (μ : Mem) (H : Heap) (locs : List Loc) (ls : Array Slot), f_X12_rainsOf_w4 n x0 x1 x2 x3 μ = some (r, μ') → isK x0 12 → Hw D b μ s.heap H locs → lvh b ls 7 [(0, 2, x0), (1, 0, x1), (2, 0, x2), (3, 0, x3)] → W p l e (rm 3) s m args below meth c H locs 0 0 (QM below args s D b (some (.int (jI r))) μ') (F0 m 4 ls []) := by
  intro n
  induction n with
  | zero => intro x0 x1 x2 x3 μ H locs ls hf; cases hf
  | succ n ih =>
    intro x0 x1 x2 x3 μ H locs ls hf t0 hw hl
    rw [f_X12_rainsOf_w4.eq_2] at hf
    refine r_iload_n C hl (kx := 3) rfl rfl dX12_rainsOf_4 ?_
    refine r_bipush C (by decide) dX12_rainsOf_5 ?_
    refine r_icmp_ge C (tgt := 110) (by decide) dX12_rainsOf_7 (fun c1 => ?_) (fun c1 => ?_)
    · have hf := ite_t c1 hf
      refine r_iload_n C hl (kx := 2) rfl rfl dX12_rainsOf_110 ?_
      exact r_iret C hw hf dX12_rainsOf_111
    · have hf := ite_f c1 hf
      refine r_iconst C dX12_rainsOf_10 ?_
      refine r_istore C hl (by decide) (L' := [(4, 0, 1), (0, 2, x0), (1, 0, x1), (2, 0, x2), (3, 0, x3)]) rfl dX12_rainsOf_11 (fun ls hl => ?_)
      refine r_iconst C dX12_rainsOf_13 ?_
      refine r_istore C hl (by decide) (L' := [(5, 0, 0), (4, 0, 1), (0, 2, x0), (1, 0, x1), (2, 0, x2), (3, 0, x3)]) rfl dX12_rainsOf_14 (fun ls hl => ?_)
      exact w_X12_rainsOf_16 C _ ih FU _ _ _ _ _ _ _ _ _ _ hf t0 hw (lvh_sub hl [2, 3, 4, 5, 1, 0] rfl)
set_option maxHeartbeats 4000000 in
set_option maxRecDepth 20000 in
theorem w_X12_rainsOf_0 (C : Cx p s m args meth c D b cX12_rainsOf 7 RX12 (some .int)) {r : Int} {μ' : Mem} {x0 x1 : Int} {μ : Mem} {H : Heap} {locs : List Loc} {ls : Array Slot} (hf : f_X12_rainsOf x0 x1 μ = some (r, μ')) (t0 : isK x0 12) (hw : Hw D b μ s.heap H locs) (hl : lvh b ls 7 [(0, 2, x0), (1, 0, x1)]) : W p l e (rm 3) s m args below meth c H locs 0 0 (QM below args s D b (some (.int (jI r))) μ') (F0 m 0 ls []) := by
  unfold f_X12_rainsOf at hf
  refine r_iconst C dX12_rainsOf_0 ?_
  refine r_istore_n C hl (by decide) (L' := [(2, 0, 0), (0, 2, x0), (1, 0, x1)]) rfl rfl dX12_rainsOf_1 (fun ls hl => ?_)
  refine r_iconst C dX12_rainsOf_2 ?_
  refine r_istore_n C hl (by decide) (L' := [(3, 0, 0), (2, 0, 0), (0, 2, x0), (1, 0, x1)]) rfl rfl dX12_rainsOf_3 (fun ls hl => ?_)
  exact w_X12_rainsOf_4 C FU _ _ _ _ _ _ _ _ hf t0 hw (lvh_sub hl [2, 3, 1, 0] rfl)
theorem c_X12_rainsOf (l : Launch) (D : Ds) (b : Nat) {x0 x1 : Int} {μ μ' : Mem} {r : Int} (t0 : isK x0 12) (hf : f_X12_rainsOf x0 x1 μ = some (r, μ')) : Ctr l D b yX12_rainsOf cX12_rainsOf 7 (some .int) 3 [(2, x0), (0, x1)] μ (some (.int (jI r))) μ' := by
  refine Ctr.of (by decide +kernel) (Nat.le_of_ble_eq_true rfl) ?_
  intro p e s m below meth c C hw ls hl
  exact w_X12_rainsOf_0 C hf t0 hw hl
set_option maxHeartbeats 4000000 in
set_option maxRecDepth 20000 in
theorem w_X12_rains_0 (C : Cx p s m args meth c D b cX12_rains 3 RX12 (some .int)) {r : Int} {μ' : Mem} {x0 x1 : Int} {μ : Mem} {H : Heap} {locs : List Loc} {ls : Array Slot} (hf : f_X12_rains x0 x1 μ = some (r, μ')) (t0 : isK x0 12) (hw : Hw D b μ s.heap H locs) (hl : lvh b ls 3 [(0, 2, x0), (1, 0, x1)]) : W p l e (rm 4) s m args below meth c H locs 0 0 (QM below args s D b (some (.int (jI r))) μ') (F0 m 0 ls []) := by
  unfold f_X12_rains at hf
  refine r_aload_n C hl (kx := 0) rfl rfl dX12_rains_0 ?_
  refine r_iconst C dX12_rains_1 ?_
  obtain ⟨μ1, e2, hf⟩ := nm_some hf
  refine pf_12_1 C hw t0 dX12_rains_2 (fun H locs hw => ?_)
  rw [← e2] at hw
  refine r_aload_n C hl (kx := 0) rfl rfl dX12_rains_5 ?_
  refine r_iload_n C hl (kx := 1) rfl rfl dX12_rains_6 ?_
  obtain ⟨r4, μ3, e5, hf⟩ := bn_some hf
  refine r_callVv C hw (K := [(0, x1)]) ok12 t0 (c_X12_noWorn l D b t0 e5) mi_X12_noWorn in_X12_noWorn se_X12_noWorn kl_12_373 rfl rfl (lvh_sz hl) (by decide) (Kr := []) rfl (Nat.le_of_ble_eq_true rfl) dX12_rains_7 (fun H locs hw => ?_)
  refine r_istore_n C hl (by decide) (L' := [(2, 0, r4), (0, 2, x0), (1, 0, x1)]) rfl rfl dX12_rains_10 (fun ls hl => ?_)
  refine r_iload_n C hl (kx := 0) rfl rfl dX12_rains_11 ?_
  refine r_if_eq C (tgt := 19) (by decide) dX12_rains_12 (fun c6 => ?_) (fun c6 => ?_)
  · have hf := ite_t c6 hf
    refine r_aload_n C hl (kx := 1) rfl rfl dX12_rains_19 ?_
    refine r_iload_n C hl (kx := 2) rfl rfl dX12_rains_20 ?_
    obtain ⟨r8, μ7, e9, hf⟩ := bn_some hf
    refine r_callVv C hw (K := [(0, x1)]) ok12 t0 (c_X12_rainsOf l D b t0 e9) mi_X12_rainsOf in_X12_rainsOf se_X12_rainsOf kl_12_376 rfl rfl (lvh_sz hl) (by decide) (Kr := []) rfl (Nat.le_of_ble_eq_true rfl) dX12_rains_21 (fun H locs hw => ?_)
    exact r_iret C hw hf dX12_rains_24
  · have hf := ite_f c6 hf
    refine r_iload_n C hl (kx := 0) rfl rfl dX12_rains_15 ?_
    refine r_goto C (tgt := 24) (by decide) dX12_rains_16 ?_
    exact r_iret C hw hf dX12_rains_24
theorem c_X12_rains (l : Launch) (D : Ds) (b : Nat) {x0 x1 : Int} {μ μ' : Mem} {r : Int} (t0 : isK x0 12) (hf : f_X12_rains x0 x1 μ = some (r, μ')) : Ctr l D b yX12_rains cX12_rains 3 (some .int) 4 [(2, x0), (0, x1)] μ (some (.int (jI r))) μ' := by
  refine Ctr.of (by decide +kernel) (Nat.le_of_ble_eq_true rfl) ?_
  intro p e s m below meth c C hw ls hl
  exact w_X12_rains_0 C hf t0 hw hl
set_option maxHeartbeats 4000000 in
set_option maxRecDepth 20000 in
theorem w_X12_mostOften_101 (C : Cx p s m args meth c D b cX12_mostOften 6 RX12 (some .int)) {r : Int} {μ' : Mem} (k29 : Int → Int → Int → Int → Int → Mem → Option (Int × Mem)) (h29 : ∀ (x0 x1 x2 x3 x4 : Int) (μ : Mem) (H : Heap) (locs : List Loc) (ls : Array Slot), k29 x0 x1 x2 x3 x4 μ = some (r, μ') → isK x0 12 → Hw D b μ s.heap H locs → lvh b ls 6 [(0, 2, x0), (1, 0, x1), (2, 0, x2), (3, 0, x3), (4, 0, x4)] → W p l e (rm 3) s m args below meth c H locs 0 0 (QM below args s D b (some (.int (jI r))) μ') (F0 m 29 ls [])) {x0 x1 x2 x3 x4 : Int} {μ : Mem} {H : Heap} {locs : List Loc} {ls : Array Slot} (hf : f_X12_mostOften_j101 k29 x0 x1 x2 x3 x4 μ = some (r, μ')) (t0 : isK x0 12) (hw : Hw D b μ s.heap H locs) (hl : lvh b ls 6 [(0, 2, x0), (1, 0, x1), (2, 0, x2), (3, 0, x3), (4, 0, x4)]) : W p l e (rm 3) s m args below meth c H locs 0 0 (QM below args s D b (some (.int (jI r))) μ') (F0 m 101 ls []) := by
  unfold f_X12_mostOften_j101 at hf
  refine r_iinc C hl (kx := 4) rfl (by decide) (L' := [(4, 0, (x4 + 1)), (0, 2, x0), (1, 0, x1), (2, 0, x2), (3, 0, x3)]) rfl dX12_mostOften_101 (fun ls hl => ?_)
  refine r_goto C (tgt := 29) (by decide) dX12_mostOften_104 ?_
  exact h29 _ _ _ _ _ _ _ _ _ hf t0 hw (lvh_sub hl [1, 2, 3, 4, 0] rfl)
set_option maxHeartbeats 4000000 in
set_option maxRecDepth 20000 in
theorem w_X12_mostOften_100 (C : Cx p s m args meth c D b cX12_mostOften 6 RX12 (some .int)) {r : Int} {μ' : Mem} (k29 : Int → Int → Int → Int → Int → Mem → Option (Int × Mem)) (h29 : ∀ (x0 x1 x2 x3 x4 : Int) (μ : Mem) (H : Heap) (locs : List Loc) (ls : Array Slot), k29 x0 x1 x2 x3 x4 μ = some (r, μ') → isK x0 12 → Hw D b μ s.heap H locs → lvh b ls 6 [(0, 2, x0), (1, 0, x1), (2, 0, x2), (3, 0, x3), (4, 0, x4)] → W p l e (rm 3) s m args below meth c H locs 0 0 (QM below args s D b (some (.int (jI r))) μ') (F0 m 29 ls [])) {x0 x1 x2 x4 s0 : Int} {μ : Mem} {H : Heap} {locs : List Loc} {ls : Array Slot} (hf : f_X12_mostOften_j100 k29 x0 x1 x2 x4 s0 μ = some (r, μ')) (t0 : isK x0 12) (hw : Hw D b μ s.heap H locs) (hl : lvh b ls 6 [(0, 2, x0), (1, 0, x1), (2, 0, x2), (4, 0, x4)]) : W p l e (rm 3) s m args below meth c H locs 0 0 (QM below args s D b (some (.int (jI r))) μ') (F0 m 100 ls [.int (jI s0)]) := by
  unfold f_X12_mostOften_j100 at hf
  refine r_istore_n C hl (by decide) (L' := [(3, 0, s0), (0, 2, x0), (1, 0, x1), (2, 0, x2), (4, 0, x4)]) rfl rfl dX12_mostOften_100 (fun ls hl => ?_)
  exact w_X12_mostOften_101 C _ h29 hf t0 hw (lvh_sub hl [1, 2, 3, 0, 4] rfl)
set_option maxHeartbeats 4000000 in
set_option maxRecDepth 20000 in
theorem w_X12_mostOften_29 (C : Cx p s m args meth c D b cX12_mostOften 6 RX12 (some .int)) {r : Int} {μ' : Mem} : ∀ (n : Nat) (x0 x1 x2 x3 x4 : Int) (μ : Mem) (H : Heap) (locs : List Loc) (ls : Array Slot), f_X12_mostOften_w29 n x0 x1 x2 x3 x4 μ = some (r, μ') → isK x0 12 → Hw D b μ s.heap H locs → lvh b ls 6 [(0, 2, x0), (1, 0, x1), (2, 0, x2), (3, 0, x3), (4, 0, x4)] → W p l e (rm 3) s m args below meth c H locs 0 0 (QM below args s D b (some (.int (jI r))) μ') (F0 m 29 ls []) := by
  intro n
  induction n with
  | zero => intro x0 x1 x2 x3 x4 μ H locs ls hf; cases hf
  | succ n ih =>
    intro x0 x1 x2 x3 x4 μ H locs ls hf t0 hw hl
    rw [f_X12_mostOften_w29.eq_2] at hf
    refine r_iload C hl (kx := 4) rfl dX12_mostOften_29 ?_
    refine r_bipush C (by decide) dX12_mostOften_31 ?_
    refine r_icmp_ge C (tgt := 107) (by decide) dX12_mostOften_33 (fun c1 => ?_) (fun c1 => ?_)
    · have hf := ite_t c1 hf
      refine r_iload_n C hl (kx := 3) rfl rfl dX12_mostOften_107 ?_
      exact r_iret C hw hf dX12_mostOften_108
    · have hf := ite_f c1 hf
      refine r_iload_n C hl (kx := 2) rfl rfl dX12_mostOften_36 ?_
      refine r_i2l C dX12_mostOften_37 ?_
      refine r_iload C hl (kx := 4) rfl dX12_mostOften_38 ?_
      obtain ⟨r3, μ2, e4, hf⟩ := bn_some hf
      refine r_callSv C hw (K := [(1, (nrm x2)), (0, x4)]) (c_X12_isIn l D b e4) mi_X12_isIn st_X12_isIn kl_12_322 rfl rfl (lvh_sz hl) (by decide) (Kr := []) rfl (Nat.le_of_ble_eq_true rfl) dX12_mostOften_40 (fun H locs hw => ?_)
      refine r_if_ne C (tgt := 49) (by decide) dX12_mostOften_43 (fun c5 => ?_) (fun c5 => ?_)
      · have hf := ite_f c5 hf
        refine r_aload_n C hl (kx := 0) rfl rfl dX12_mostOften_49 ?_
        refine r_iload_n C hl (kx := 1) rfl rfl dX12_mostOften_50 ?_
        refine r_aload_n C hl (kx := 0) rfl rfl dX12_mostOften_51 ?_
        refine gf_12_13 C hw t0 dX12_mostOften_52 ?_
        refine r_bipush C (by decide) dX12_mostOften_55 ?_
        refine r_iload_n C hl (kx := 1) rfl rfl dX12_mostOften_57 ?_
        refine r_iadd C dX12_mostOften_58 ?_
        obtain ⟨g6, hf⟩ := gd_some hf
        refine r_iald C hw (n := 3300) (ow_12_1 t0) (j := (nrm (56 + x1))) rfl g6 (by decide) dX12_mostOften_59 ?_
        refine r_iload C hl (kx := 4) rfl dX12_mostOften_60 ?_
        obtain ⟨r8, μ7, e9, hf⟩ := bn_some hf
        refine r_callVv C hw (K := [(0, x1), (0, (μ2 (x0 + 1) (nrm (56 + x1)))), (0, x4)]) ok12 t0 (c_X12_wornTo l D b t0 e9) mi_X12_wornTo in_X12_wornTo se_X12_wornTo kl_12_240 rfl rfl (lvh_sz hl) (by decide) (Kr := []) rfl (Nat.le_of_ble_eq_true rfl) dX12_mostOften_62 (fun H locs hw => ?_)
        refine r_istore C hl (by decide) (L' := [(5, 0, r8), (0, 2, x0), (1, 0, x1), (2, 0, x2), (3, 0, x3), (4, 0, x4)]) rfl dX12_mostOften_65 (fun ls hl => ?_)
        refine r_aload_n C hl (kx := 1) rfl rfl dX12_mostOften_67 ?_
        refine gf_12_48 C hw t0 dX12_mostOften_68 ?_
        refine r_iload C hl (kx := 0) rfl dX12_mostOften_71 ?_
        refine r_dup2 C rfl (rfv_cat _ _) dX12_mostOften_73 ?_
        obtain ⟨g10, hf⟩ := gd_some hf
        refine r_iald C hw (n := 7) (ow_12_25 t0) (j := (nrm r8)) rfl g10 (by decide) dX12_mostOften_74 ?_
        refine r_iconst C dX12_mostOften_75 ?_
        refine r_iadd C dX12_mostOften_76 ?_
        obtain ⟨g13, hf⟩ := gd_some hf
        obtain ⟨μ11, e12, hf⟩ := nm_some hf
        refine r_iast C hw (n := 7) (ow_12_25 t0) (j := (nrm r8)) rfl g13 (by decide) dX12_mostOften_77 (fun H locs hw => ?_)
        rw [← e12] at hw
        refine r_aload_n C hl (kx := 1) rfl rfl dX12_mostOften_78 ?_
        refine gf_12_48 C hw t0 dX12_mostOften_79 ?_
        refine r_iload C hl (kx := 0) rfl dX12_mostOften_82 ?_
        obtain ⟨g14, hf⟩ := gd_some hf
        refine r_iald C hw (n := 7) (ow_12_25 t0) (j := (nrm r8)) rfl g14 (by decide) dX12_mostOften_84 ?_
        refine r_iload_n C hl (kx := 4) rfl rfl dX12_mostOften_85 ?_
        refine r_icmp_le C (tgt := 99) (by decide) dX12_mostOften_86 (fun c15 => ?_) (fun c15 => ?_)
        · have hf := ite_t c15 hf
          refine r_iload_n C hl (kx := 4) rfl rfl dX12_mostOften_99 ?_
          exact w_X12_mostOften_100 C _ ih hf t0 hw (lvh_sub hl [1, 2, 3, 5] rfl)
        · have hf := ite_f c15 hf
          refine r_aload_n C hl (kx := 1) rfl rfl dX12_mostOften_89 ?_
          refine gf_12_48 C hw t0 dX12_mostOften_90 ?_
          refine r_iload C hl (kx := 0) rfl dX12_mostOften_93 ?_
          obtain ⟨g16, hf⟩ := gd_some hf
          refine r_iald C hw (n := 7) (ow_12_25 t0) (j := (nrm r8)) rfl g16 (by decide) dX12_mostOften_95 ?_
          refine r_goto C (tgt := 100) (by decide) dX12_mostOften_96 ?_
          exact w_X12_mostOften_100 C _ ih hf t0 hw (lvh_sub hl [1, 2, 3, 5] rfl)
      · have hf := ite_t c5 hf
        refine r_goto C (tgt := 101) (by decide) dX12_mostOften_46 ?_
        exact w_X12_mostOften_101 C _ ih hf t0 hw (lvh_sub hl [0, 1, 2, 3, 4] rfl)
set_option maxHeartbeats 4000000 in
set_option maxRecDepth 20000 in
theorem w_X12_mostOften_5 (C : Cx p s m args meth c D b cX12_mostOften 6 RX12 (some .int)) {r : Int} {μ' : Mem} : ∀ (n : Nat) (x0 x1 x2 x3 x4 : Int) (μ : Mem) (H : Heap) (locs : List Loc) (ls : Array Slot), f_X12_mostOften_w5 n x0 x1 x2 x3 x4 μ = some (r, μ') → isK x0 12 → Hw D b μ s.heap H locs → lvh b ls 6 [(0, 2, x0), (1, 0, x1), (2, 0, x2), (3, 0, x3), (4, 0, x4)] → W p l e (rm 3) s m args below meth c H locs 0 0 (QM below args s D b (some (.int (jI r))) μ') (F0 m 5 ls []) := by
  intro n
  induction n with
  | zero => intro x0 x1 x2 x3 x4 μ H locs ls hf; cases hf
  | succ n ih =>
    intro x0 x1 x2 x3 x4 μ H locs ls hf t0 hw hl
    rw [f_X12_mostOften_w5.eq_2] at hf
    refine r_iload C hl (kx := 4) rfl dX12_mostOften_5 ?_
    refine r_bipush C (by decide) dX12_mostOften_7 ?_
    refine r_icmp_gt C (tgt := 26) (by decide) dX12_mostOften_9 (fun c1 => ?_) (fun c1 => ?_)
    · have hf := ite_t c1 hf
      refine r_iconst C dX12_mostOften_26 ?_
      refine r_istore C hl (by decide) (L' := [(4, 0, 0), (0, 2, x0), (1, 0, x1), (2, 0, x2), (3, 0, x3)]) rfl dX12_mostOften_27 (fun ls hl => ?_)
      exact w_X12_mostOften_29 C FU _ _ _ _ _ _ _ _ _ hf t0 hw (lvh_sub hl [1, 2, 3, 4, 0] rfl)
    · have hf := ite_f c1 hf
      refine r_aload_n C hl (kx := 0) rfl rfl dX12_mostOften_12 ?_
      refine gf_12_48 C hw t0 dX12_mostOften_13 ?_
      refine r_iload C hl (kx := 4) rfl dX12_mostOften_16 ?_
      refine r_iconst C dX12_mostOften_18 ?_
      obtain ⟨g4, hf⟩ := gd_some hf
      obtain ⟨μ2, e3, hf⟩ := nm_some hf
      refine r_iast C hw (n := 7) (ow_12_25 t0) (j := (nrm x4)) rfl g4 (by decide) dX12_mostOften_19 (fun H locs hw => ?_)
      rw [← e3] at hw
      refine r_iinc C hl (kx := 4) rfl (by decide) (L' := [(4, 0, (x4 + 1)), (0, 2, x0), (1, 0, x1), (2, 0, x2), (3, 0, x3)]) rfl dX12_mostOften_20 (fun ls hl => ?_)
      refine r_goto C (tgt := 5) (by decide) dX12_mostOften_23 ?_
      exact ih _ _ _ _ _ _ _ _ _ hf t0 hw (lvh_sub hl [1, 2, 3, 4, 0] rfl)
set_option maxHeartbeats 4000000 in
set_option maxRecDepth 20000 in
theorem w_X12_mostOften_0 (C : Cx p s m args meth c D b cX12_mostOften 6 RX12 (some .int)) {r : Int} {μ' : Mem} {x0 x1 x2 : Int} {μ : Mem} {H : Heap} {locs : List Loc} {ls : Array Slot} (hf : f_X12_mostOften x0 x1 x2 μ = some (r, μ')) (t0 : isK x0 12) (hw : Hw D b μ s.heap H locs) (hl : lvh b ls 6 [(0, 2, x0), (1, 0, x1), (2, 0, x2)]) : W p l e (rm 3) s m args below meth c H locs 0 0 (QM below args s D b (some (.int (jI r))) μ') (F0 m 0 ls []) := by
  unfold f_X12_mostOften at hf
  refine r_iconst C dX12_mostOften_0 ?_
  refine r_istore_n C hl (by decide) (L' := [(3, 0, 0), (0, 2, x0), (1, 0, x1), (2, 0, x2)]) rfl rfl dX12_mostOften_1 (fun ls hl => ?_)
  refine r_iconst C dX12_mostOften_2 ?_
  refine r_istore C hl (by decide) (L' := [(4, 0, 0), (3, 0, 0), (0, 2, x0), (1, 0, x1), (2, 0, x2)]) rfl dX12_mostOften_3 (fun ls hl => ?_)
  exact w_X12_mostOften_5 C FU _ _ _ _ _ _ _ _ _ hf t0 hw (lvh_sub hl [2, 3, 4, 1, 0] rfl)
theorem c_X12_mostOften (l : Launch) (D : Ds) (b : Nat) {x0 x1 x2 : Int} {μ μ' : Mem} {r : Int} (t0 : isK x0 12) (hf : f_X12_mostOften x0 x1 x2 μ = some (r, μ')) : Ctr l D b yX12_mostOften cX12_mostOften 6 (some .int) 3 [(2, x0), (0, x1), (0, x2)] μ (some (.int (jI r))) μ' := by
  refine Ctr.of (by decide +kernel) (Nat.le_of_ble_eq_true rfl) ?_
  intro p e s m below meth c C hw ls hl
  exact w_X12_mostOften_0 C hf t0 hw hl
set_option maxHeartbeats 4000000 in
set_option maxRecDepth 20000 in
theorem w_X12_attempt_76 (C : Cx p s m args meth c D b cX12_attempt 8 RX12 (some .int)) {r : Int} {μ' : Mem} (k34 : Int → Int → Int → Int → Int → Mem → Option (Int × Mem)) (h34 : ∀ (x0 x3 x4 x5 x6 : Int) (μ : Mem) (H : Heap) (locs : List Loc) (ls : Array Slot), k34 x0 x3 x4 x5 x6 μ = some (r, μ') → isK x0 12 → Hw D b μ s.heap H locs → lvh b ls 8 [(0, 2, x0), (3, 0, x3), (4, 0, x4), (5, 0, x5), (6, 0, x6)] → W p l e (rm 4) s m args below meth c H locs 0 0 (QM below args s D b (some (.int (jI r))) μ') (F0 m 34 ls [])) {x0 x3 x4 x5 x6 : Int} {μ : Mem} {H : Heap} {locs : List Loc} {ls : Array Slot} (hf : f_X12_attempt_j76 k34 x0 x3 x4 x5 x6 μ = some (r, μ')) (t0 : isK x0 12) (hw : Hw D b μ s.heap H locs) (hl : lvh b ls 8 [(0, 2, x0), (3, 0, x3), (4, 0, x4), (5, 0, x5), (6, 0, x6)]) : W p l e (rm 4) s m args below meth c H locs 0 0 (QM below args s D b (some (.int (jI r))) μ') (F0 m 76 ls []) := by
  unfold f_X12_attempt_j76 at hf
  refine r_iinc C hl (kx := 4) rfl (by decide) (L' := [(6, 0, (x6 + 1)), (0, 2, x0), (3, 0, x3), (4, 0, x4), (5, 0, x5)]) rfl dX12_attempt_76 (fun ls hl => ?_)
  refine r_goto C (tgt := 34) (by decide) dX12_attempt_79 ?_
  exact h34 _ _ _ _ _ _ _ _ _ hf t0 hw (lvh_sub hl [1, 2, 3, 4, 0] rfl)
set_option maxHeartbeats 4000000 in
set_option maxRecDepth 20000 in
theorem w_X12_attempt_34 (C : Cx p s m args meth c D b cX12_attempt 8 RX12 (some .int)) {r : Int} {μ' : Mem} : ∀ (n : Nat) (x0 x3 x4 x5 x6 : Int) (μ : Mem) (H : Heap) (locs : List Loc) (ls : Array Slot), f_X12_attempt_w34 n x0 x3 x4 x5 x6 μ = some (r, μ') → isK x0 12 → Hw D b μ s.heap H locs → lvh b ls 8 [(0, 2, x0), (3, 0, x3), (4, 0, x4), (5, 0, x5), (6, 0, x6)] → W p l e (rm 4) s m args below meth c H locs 0 0 (QM below args s D b (some (.int (jI r))) μ') (F0 m 34 ls []) := by
  intro n
  induction n with
  | zero => intro x0 x3 x4 x5 x6 μ H locs ls hf; cases hf
  | succ n ih =>
    intro x0 x3 x4 x5 x6 μ H locs ls hf t0 hw hl
    rw [f_X12_attempt_w34.eq_2] at hf
    refine r_iload C hl (kx := 4) rfl dX12_attempt_34 ?_
    refine r_aload_n C hl (kx := 0) rfl rfl dX12_attempt_36 ?_
    refine gf_12_13 C hw t0 dX12_attempt_37 ?_
    refine r_iconst C dX12_attempt_40 ?_
    refine r_iald C hw (n := 3300) (ow_12_1 t0) (j := 2) (by decide) (by decide) (by decide) dX12_attempt_41 ?_
    refine r_icmp_ge C (tgt := 82) (by decide) dX12_attempt_42 (fun c1 => ?_) (fun c1 => ?_)
    · have hf := ite_t c1 hf
      refine r_iload C hl (kx := 2) rfl dX12_attempt_82 ?_
      exact r_iret C hw hf dX12_attempt_84
    · have hf := ite_f c1 hf
      refine r_iload_n C hl (kx := 1) rfl rfl dX12_attempt_45 ?_
      refine r_if_eq C (tgt := 82) (by decide) dX12_attempt_46 (fun c2 => ?_) (fun c2 => ?_)
      · have hf := ite_t c2 hf
        refine r_iload C hl (kx := 2) rfl dX12_attempt_82 ?_
        exact r_iret C hw hf dX12_attempt_84
      · have hf := ite_f c2 hf
        refine r_aload_n C hl (kx := 0) rfl rfl dX12_attempt_49 ?_
        refine r_iload C hl (kx := 4) rfl dX12_attempt_50 ?_
        refine r_iload_n C hl (kx := 1) rfl rfl dX12_attempt_52 ?_
        obtain ⟨r4, μ3, e5, hf⟩ := bn_some hf
        refine r_callVv C hw (K := [(0, x6), (0, x3)]) ok12 t0 (c_X12_mostOften l D b t0 e5) mi_X12_mostOften in_X12_mostOften se_X12_mostOften kl_12_379 rfl rfl (lvh_sz hl) (by decide) (Kr := []) rfl (Nat.le_of_ble_eq_true rfl) dX12_attempt_53 (fun H locs hw => ?_)
        refine r_istore C hl (by decide) (L' := [(7, 0, r4), (0, 2, x0), (3, 0, x3), (4, 0, x4), (5, 0, x5), (6, 0, x6)]) rfl dX12_attempt_56 (fun ls hl => ?_)
        refine r_iload C hl (kx := 0) rfl dX12_attempt_58 ?_
        refine r_iload C hl (kx := 4) rfl dX12_attempt_60 ?_
        refine r_icmp_lt C (tgt := 68) (by decide) dX12_attempt_62 (fun c6 => ?_) (fun c6 => ?_)
        · have hf := ite_t c6 hf
          refine r_iload C hl (kx := 5) rfl dX12_attempt_68 ?_
          refine r_istore C hl (by decide) (L' := [(4, 0, x6), (7, 0, r4), (0, 2, x0), (3, 0, x3), (5, 0, x5), (6, 0, x6)]) rfl dX12_attempt_70 (fun ls hl => ?_)
          refine r_iload C hl (kx := 1) rfl dX12_attempt_72 ?_
          refine r_istore C hl (by decide) (L' := [(5, 0, r4), (4, 0, x6), (7, 0, r4), (0, 2, x0), (3, 0, x3), (6, 0, x6)]) rfl dX12_attempt_74 (fun ls hl => ?_)
          exact w_X12_attempt_76 C _ ih hf t0 hw (lvh_sub hl [3, 4, 1, 0, 5] rfl)
        · have hf := ite_f c6 hf
          refine r_goto C (tgt := 76) (by decide) dX12_attempt_65 ?_
          exact w_X12_attempt_76 C _ ih hf t0 hw (lvh_sub hl [1, 2, 3, 4, 5] rfl)
set_option maxHeartbeats 4000000 in
set_option maxRecDepth 20000 in
theorem w_X12_attempt_0 (C : Cx p s m args meth c D b cX12_attempt 8 RX12 (some .int)) {r : Int} {μ' : Mem} {x0 x1 : Int} {μ : Mem} {H : Heap} {locs : List Loc} {ls : Array Slot} (hf : f_X12_attempt x0 x1 μ = some (r, μ')) (t0 : isK x0 12) (hw : Hw D b μ s.heap H locs) (hl : lvh b ls 8 [(0, 2, x0), (1, 0, x1)]) : W p l e (rm 4) s m args below meth c H locs 0 0 (QM below args s D b (some (.int (jI r))) μ') (F0 m 0 ls []) := by
  unfold f_X12_attempt at hf
  refine r_aload_n C hl (kx := 0) rfl rfl dX12_attempt_0 ?_
  refine r_iconst C dX12_attempt_1 ?_
  obtain ⟨μ1, e2, hf⟩ := nm_some hf
  refine pf_12_1 C hw t0 dX12_attempt_2 (fun H locs hw => ?_)
  rw [← e2] at hw
  refine r_aload_n C hl (kx := 0) rfl rfl dX12_attempt_5 ?_
  refine r_iload_n C hl (kx := 1) rfl rfl dX12_attempt_6 ?_
  obtain ⟨r4, μ3, e5, hf⟩ := bn_some hf
  refine r_callVv C hw (K := [(0, x1)]) ok12 t0 (c_X12_noWorn l D b t0 e5) mi_X12_noWorn in_X12_noWorn se_X12_noWorn kl_12_373 rfl rfl (lvh_sz hl) (by decide) (Kr := []) rfl (Nat.le_of_ble_eq_true rfl) dX12_attempt_7 (fun H locs hw => ?_)
  refine r_istore_n C hl (by decide) (L' := [(2, 0, r4), (0, 2, x0), (1, 0, x1)]) rfl rfl dX12_attempt_10 (fun ls hl => ?_)
  refine r_iload_n C hl (kx := 0) rfl rfl dX12_attempt_11 ?_
  refine r_if_eq C (tgt := 17) (by decide) dX12_attempt_12 (fun c6 => ?_) (fun c6 => ?_)
  · have hf := ite_t c6 hf
    refine r_aload_n C hl (kx := 1) rfl rfl dX12_attempt_17 ?_
    refine r_iload_n C hl (kx := 2) rfl rfl dX12_attempt_18 ?_
    obtain ⟨r8, μ7, e9, hf⟩ := bn_some hf
    refine r_callVv C hw (K := [(0, x1)]) ok12 t0 (c_X12_rainsOf l D b t0 e9) mi_X12_rainsOf in_X12_rainsOf se_X12_rainsOf kl_12_376 rfl rfl (lvh_sz hl) (by decide) (Kr := []) rfl (Nat.le_of_ble_eq_true rfl) dX12_attempt_19 (fun H locs hw => ?_)
    refine r_istore_n C hl (by decide) (L' := [(3, 0, r8), (2, 0, r4), (0, 2, x0), (1, 0, x1)]) rfl rfl dX12_attempt_22 (fun ls hl => ?_)
    refine r_iconst C dX12_attempt_23 ?_
    refine r_istore C hl (by decide) (L' := [(4, 0, (-1)), (3, 0, r8), (2, 0, r4), (0, 2, x0), (1, 0, x1)]) rfl dX12_attempt_24 (fun ls hl => ?_)
    refine r_ldcw C (z := 268435456) (by decide) kw1757 dX12_attempt_26 ?_
    refine r_istore C hl (by decide) (L' := [(5, 0, 268435456), (4, 0, (-1)), (3, 0, r8), (2, 0, r4), (0, 2, x0), (1, 0, x1)]) rfl dX12_attempt_29 (fun ls hl => ?_)
    refine r_iconst C dX12_attempt_31 ?_
    refine r_istore C hl (by decide) (L' := [(6, 0, 0), (5, 0, 268435456), (4, 0, (-1)), (3, 0, r8), (2, 0, r4), (0, 2, x0), (1, 0, x1)]) rfl dX12_attempt_32 (fun ls hl => ?_)
    exact w_X12_attempt_34 C FU _ _ _ _ _ _ _ _ _ hf t0 hw (lvh_sub hl [5, 3, 2, 1, 0] rfl)
  · have hf := ite_f c6 hf
    refine r_iload_n C hl (kx := 0) rfl rfl dX12_attempt_15 ?_
    exact r_iret C hw hf dX12_attempt_16
theorem c_X12_attempt (l : Launch) (D : Ds) (b : Nat) {x0 x1 : Int} {μ μ' : Mem} {r : Int} (t0 : isK x0 12) (hf : f_X12_attempt x0 x1 μ = some (r, μ')) : Ctr l D b yX12_attempt cX12_attempt 8 (some .int) 4 [(2, x0), (0, x1)] μ (some (.int (jI r))) μ' := by
  refine Ctr.of (by decide +kernel) (Nat.le_of_ble_eq_true rfl) ?_
  intro p e s m below meth c C hw ls hl
  exact w_X12_attempt_0 C hf t0 hw hl
set_option maxHeartbeats 4000000 in
set_option maxRecDepth 20000 in
theorem w_X12_winsAt_62 (C : Cx p s m args meth c D b cX12_winsAt 6 RX12 (some .boolean)) {r : Int} {μ' : Mem} (rec : Nat → Int → Int → Int → Int → Mem → Option (Int × Mem)) (h_0 : ∀ (x0 x1 x2 : Int) (μ μ' : Mem) (r : Int), isK x0 12 → rec 0 x0 x1 x2 0 μ = some (r, μ') → Ctr l D b yX12_winsAt cX12_winsAt 6 (some .boolean) (n0 + 4) [(2, x0), (0, x1), (0, x2)] μ (some (.int (jI r))) μ') (h_1 : ∀ (x0 x1 x2 x3 : Int) (μ μ' : Mem) (r : Int), isK x0 12 → rec 1 x0 x1 x2 x3 μ = some (r, μ') → Ctr l D b yX12_winsBy cX12_winsBy 5 (some .boolean) (n0 + 4) [(2, x0), (0, x1), (0, x2), (0, x3)] μ (some (.int (jI r))) μ') {x0 x3 x4 : Int} {μ : Mem} {H : Heap} {locs : List Loc} {ls : Array Slot} (hf : f_X12_winsAt_j62 rec x0 x3 x4 μ = some (r, μ')) (t0 : isK x0 12) (hw : Hw D b μ s.heap H locs) (hl : lvh b ls 6 [(0, 2, x0), (3, 0, x3), (4, 0, x4)]) : W p l e (rm (n0 + 1 + 4)) s m args below meth c H locs 0 0 (QM below args s D b (some (.int (jI r))) μ') (F0 m 62 ls []) := by
  unfold f_X12_winsAt_j62 at hf
  refine r_aload_n C hl (kx := 0) rfl rfl dX12_winsAt_62 ?_
  refine gf_12_54 C hw t0 dX12_winsAt_63 ?_
  refine r_iload_n C hl (kx := 1) rfl rfl dX12_winsAt_66 ?_
  refine r_iconst C dX12_winsAt_67 ?_
  obtain ⟨g3, hf⟩ := gd_some hf
  obtain ⟨μ1, e2, hf⟩ := nm_some hf
  refine r_zast C hw (n := 3584) (ow_12_27 t0) (j := (nrm x3)) rfl g3 (by decide) (by decide) dX12_winsAt_68 (fun H locs hw => ?_)
  rw [← e2] at hw
  refine r_aload_n C hl (kx := 0) rfl rfl dX12_winsAt_69 ?_
  refine gf_12_51 C hw t0 dX12_winsAt_70 ?_
  refine r_iload_n C hl (kx := 1) rfl rfl dX12_winsAt_73 ?_
  refine r_iload C hl (kx := 2) rfl dX12_winsAt_74 ?_
  obtain ⟨g6, hf⟩ := gd_some hf
  obtain ⟨g7, hf⟩ := gd_some hf
  obtain ⟨μ4, e5, hf⟩ := nm_some hf
  refine r_zast C hw (n := 3584) (ow_12_26 t0) (j := (nrm x3)) rfl g6 g7 (by decide) dX12_winsAt_76 (fun H locs hw => ?_)
  rw [← e5] at hw
  refine r_iload C hl (kx := 2) rfl dX12_winsAt_77 ?_
  obtain ⟨g8, hf⟩ := gd_some hf
  exact r_zret C hw g8 hf dX12_winsAt_79
set_option maxHeartbeats 4000000 in
set_option maxRecDepth 20000 in
theorem w_X12_winsAt_30 (C : Cx p s m args meth c D b cX12_winsAt 6 RX12 (some .boolean)) {r : Int} {μ' : Mem} (rec : Nat → Int → Int → Int → Int → Mem → Option (Int × Mem)) (h_0 : ∀ (x0 x1 x2 : Int) (μ μ' : Mem) (r : Int), isK x0 12 → rec 0 x0 x1 x2 0 μ = some (r, μ') → Ctr l D b yX12_winsAt cX12_winsAt 6 (some .boolean) (n0 + 4) [(2, x0), (0, x1), (0, x2)] μ (some (.int (jI r))) μ') (h_1 : ∀ (x0 x1 x2 x3 : Int) (μ μ' : Mem) (r : Int), isK x0 12 → rec 1 x0 x1 x2 x3 μ = some (r, μ') → Ctr l D b yX12_winsBy cX12_winsBy 5 (some .boolean) (n0 + 4) [(2, x0), (0, x1), (0, x2), (0, x3)] μ (some (.int (jI r))) μ') : ∀ (n : Nat) (x0 x1 x2 x3 x4 x5 : Int) (μ : Mem) (H : Heap) (locs : List Loc) (ls : Array Slot), f_X12_winsAt_w30 rec n x0 x1 x2 x3 x4 x5 μ = some (r, μ') → isK x0 12 → Hw D b μ s.heap H locs → lvh b ls 6 [(0, 2, x0), (1, 0, x1), (2, 0, x2), (3, 0, x3), (4, 0, x4), (5, 0, x5)] → W p l e (rm (n0 + 1 + 4)) s m args below meth c H locs 0 0 (QM below args s D b (some (.int (jI r))) μ') (F0 m 30 ls []) := by
  intro n
  induction n with
  | zero => intro x0 x1 x2 x3 x4 x5 μ H locs ls hf; cases hf
  | succ n ih =>
    intro x0 x1 x2 x3 x4 x5 μ H locs ls hf t0 hw hl
    rw [f_X12_winsAt_w30.eq_2] at hf
    refine r_iload C hl (kx := 5) rfl dX12_winsAt_30 ?_
    refine r_aload_n C hl (kx := 0) rfl rfl dX12_winsAt_32 ?_
    refine gf_12_13 C hw t0 dX12_winsAt_33 ?_
    refine r_iconst C dX12_winsAt_36 ?_
    refine r_iald C hw (n := 3300) (ow_12_1 t0) (j := 2) (by decide) (by decide) (by decide) dX12_winsAt_37 ?_
    refine r_icmp_ge C (tgt := 62) (by decide) dX12_winsAt_38 (fun c1 => ?_) (fun c1 => ?_)
    · have hf := ite_t c1 hf
      exact w_X12_winsAt_62 C _ h_0 h_1 hf t0 hw (lvh_sub hl [0, 3, 4] rfl)
    · have hf := ite_f c1 hf
      refine r_iload C hl (kx := 4) rfl dX12_winsAt_41 ?_
      refine r_if_ne C (tgt := 62) (by decide) dX12_winsAt_43 (fun c2 => ?_) (fun c2 => ?_)
      · have hf := ite_f c2 hf
        exact w_X12_winsAt_62 C _ h_0 h_1 hf t0 hw (lvh_sub hl [0, 3, 4] rfl)
      · have hf := ite_t c2 hf
        refine r_aload_n C hl (kx := 0) rfl rfl dX12_winsAt_46 ?_
        refine r_iload C hl (kx := 5) rfl dX12_winsAt_47 ?_
        refine r_iload_n C hl (kx := 1) rfl rfl dX12_winsAt_49 ?_
        refine r_iload_n C hl (kx := 2) rfl rfl dX12_winsAt_50 ?_
        obtain ⟨r4, μ3, e5, hf⟩ := bn_some hf
        refine r_callVv C hw (K := [(0, x5), (0, x1), (0, x2)]) ok12 t0 (h_1 _ _ _ _ _ _ _ t0 e5) mi_X12_winsBy in_X12_winsBy se_X12_winsBy kl_12_382 rfl rfl (lvh_sz hl) ⟨by simp only [rm]; omega, by simp only [rm]; omega⟩ (Kr := []) rfl (Nat.le_of_ble_eq_true rfl) dX12_winsAt_51 (fun H locs hw => ?_)
        refine r_istore C hl (by decide) (L' := [(4, 0, r4), (0, 2, x0), (1, 0, x1), (2, 0, x2), (3, 0, x3), (5, 0, x5)]) rfl dX12_winsAt_54 (fun ls hl => ?_)
        refine r_iinc C hl (kx := 5) rfl (by decide) (L' := [(5, 0, (x5 + 1)), (4, 0, r4), (0, 2, x0), (1, 0, x1), (2, 0, x2), (3, 0, x3)]) rfl dX12_winsAt_56 (fun ls hl => ?_)
        refine r_goto C (tgt := 30) (by decide) dX12_winsAt_59 ?_
        exact ih _ _ _ _ _ _ _ _ _ _ hf t0 hw (lvh_sub hl [2, 3, 4, 5, 1, 0] rfl)
set_option maxHeartbeats 4000000 in
set_option maxRecDepth 20000 in
theorem w_X12_winsAt_0 (C : Cx p s m args meth c D b cX12_winsAt 6 RX12 (some .boolean)) {r : Int} {μ' : Mem} (rec : Nat → Int → Int → Int → Int → Mem → Option (Int × Mem)) (h_0 : ∀ (x0 x1 x2 : Int) (μ μ' : Mem) (r : Int), isK x0 12 → rec 0 x0 x1 x2 0 μ = some (r, μ') → Ctr l D b yX12_winsAt cX12_winsAt 6 (some .boolean) (n0 + 4) [(2, x0), (0, x1), (0, x2)] μ (some (.int (jI r))) μ') (h_1 : ∀ (x0 x1 x2 x3 : Int) (μ μ' : Mem) (r : Int), isK x0 12 → rec 1 x0 x1 x2 x3 μ = some (r, μ') → Ctr l D b yX12_winsBy cX12_winsBy 5 (some .boolean) (n0 + 4) [(2, x0), (0, x1), (0, x2), (0, x3)] μ (some (.int (jI r))) μ') {x0 x1 x2 : Int} {μ : Mem} {H : Heap} {locs : List Loc} {ls : Array Slot} (hf : b_X12_winsAt rec x0 x1 x2 μ = some (r, μ')) (t0 : isK x0 12) (hw : Hw D b μ s.heap H locs) (hl : lvh b ls 6 [(0, 2, x0), (1, 0, x1), (2, 0, x2)]) : W p l e (rm (n0 + 1 + 4)) s m args below meth c H locs 0 0 (QM below args s D b (some (.int (jI r))) μ') (F0 m 0 ls []) := by
  unfold b_X12_winsAt at hf
  refine r_sipush C (by decide) dX12_winsAt_0 ?_
  refine r_iload_n C hl (kx := 1) rfl rfl dX12_winsAt_3 ?_
  refine r_imul C dX12_winsAt_4 ?_
  refine r_iload_n C hl (kx := 2) rfl rfl dX12_winsAt_5 ?_
  refine r_iadd C dX12_winsAt_6 ?_
  obtain ⟨v1, e2, hf⟩ := nm_some hf
  refine top_i e2 ?_
  refine r_istore_n C hl (by decide) (L' := [(3, 0, v1), (0, 2, x0), (1, 0, x1), (2, 0, x2)]) rfl rfl dX12_winsAt_7 (fun ls hl => ?_)
  refine r_aload_n C hl (kx := 1) rfl rfl dX12_winsAt_8 ?_
  refine gf_12_54 C hw t0 dX12_winsAt_9 ?_
  refine r_iload_n C hl (kx := 0) rfl rfl dX12_winsAt_12 ?_
  obtain ⟨g3, hf⟩ := gd_some hf
  refine r_zald C hw (n := 3584) (ow_12_27 t0) (j := (nrm v1)) rfl g3 (by decide) dX12_winsAt_13 ?_
  refine r_if_eq C (tgt := 24) (by decide) dX12_winsAt_14 (fun c4 => ?_) (fun c4 => ?_)
  · have hf := ite_t c4 hf
    refine r_iconst C dX12_winsAt_24 ?_
    refine r_istore C hl (by decide) (L' := [(4, 0, 0), (3, 0, v1), (0, 2, x0), (1, 0, x1), (2, 0, x2)]) rfl dX12_winsAt_25 (fun ls hl => ?_)
    refine r_iconst C dX12_winsAt_27 ?_
    refine r_istore C hl (by decide) (L' := [(5, 0, 0), (4, 0, 0), (3, 0, v1), (0, 2, x0), (1, 0, x1), (2, 0, x2)]) rfl dX12_winsAt_28 (fun ls hl => ?_)
    exact w_X12_winsAt_30 C _ h_0 h_1 FU _ _ _ _ _ _ _ _ _ _ hf t0 hw (lvh_sub hl [3, 4, 5, 2, 1, 0] rfl)
  · have hf := ite_f c4 hf
    refine r_aload_n C hl (kx := 1) rfl rfl dX12_winsAt_17 ?_
    refine gf_12_51 C hw t0 dX12_winsAt_18 ?_
    refine r_iload_n C hl (kx := 0) rfl rfl dX12_winsAt_21 ?_
    obtain ⟨g5, hf⟩ := gd_some hf
    refine r_zald C hw (n := 3584) (ow_12_26 t0) (j := (nrm v1)) rfl g5 (by decide) dX12_winsAt_22 ?_
    obtain ⟨g6, hf⟩ := gd_some hf
    exact r_zret C hw g6 hf dX12_winsAt_23
set_option maxHeartbeats 4000000 in
set_option maxRecDepth 20000 in
theorem w_X12_winsBy_0 (C : Cx p s m args meth c D b cX12_winsBy 5 RX12 (some .boolean)) {r : Int} {μ' : Mem} (rec : Nat → Int → Int → Int → Int → Mem → Option (Int × Mem)) (h_0 : ∀ (x0 x1 x2 : Int) (μ μ' : Mem) (r : Int), isK x0 12 → rec 0 x0 x1 x2 0 μ = some (r, μ') → Ctr l D b yX12_winsAt cX12_winsAt 6 (some .boolean) (n0 + 4) [(2, x0), (0, x1), (0, x2)] μ (some (.int (jI r))) μ') (h_1 : ∀ (x0 x1 x2 x3 : Int) (μ μ' : Mem) (r : Int), isK x0 12 → rec 1 x0 x1 x2 x3 μ = some (r, μ') → Ctr l D b yX12_winsBy cX12_winsBy 5 (some .boolean) (n0 + 4) [(2, x0), (0, x1), (0, x2), (0, x3)] μ (some (.int (jI r))) μ') {x0 x1 x2 x3 : Int} {μ : Mem} {H : Heap} {locs : List Loc} {ls : Array Slot} (hf : b_X12_winsBy rec x0 x1 x2 x3 μ = some (r, μ')) (t0 : isK x0 12) (hw : Hw D b μ s.heap H locs) (hl : lvh b ls 5 [(0, 2, x0), (1, 0, x1), (2, 0, x2), (3, 0, x3)]) : W p l e (rm (n0 + 1 + 4)) s m args below meth c H locs 0 0 (QM below args s D b (some (.int (jI r))) μ') (F0 m 0 ls []) := by
  unfold b_X12_winsBy at hf
  refine r_aload_n C hl (kx := 0) rfl rfl dX12_winsBy_0 ?_
  refine r_iload_n C hl (kx := 1) rfl rfl dX12_winsBy_1 ?_
  refine r_iload_n C hl (kx := 2) rfl rfl dX12_winsBy_2 ?_
  obtain ⟨r2, μ1, e3, hf⟩ := bn_some hf
  refine r_callVv C hw (K := [(0, x1), (0, x2)]) ok12 t0 (c_X12_otherEnd l D b t0 e3) mi_X12_otherEnd in_X12_otherEnd se_X12_otherEnd kl_12_230 rfl rfl (lvh_sz hl) ⟨by simp only [rm]; omega, by simp only [rm]; omega⟩ (Kr := []) rfl (Nat.le_of_ble_eq_true rfl) dX12_winsBy_3 (fun H locs hw => ?_)
  refine r_istore C hl (by decide) (L' := [(4, 0, r2), (0, 2, x0), (1, 0, x1), (2, 0, x2), (3, 0, x3)]) rfl dX12_winsBy_6 (fun ls hl => ?_)
  refine r_iload C hl (kx := 0) rfl dX12_winsBy_8 ?_
  refine r_iconst C dX12_winsBy_10 ?_
  refine r_icmp_eq C (tgt := 49) (by decide) dX12_winsBy_11 (fun c4 => ?_) (fun c4 => ?_)
  · have hf := ite_t c4 hf
    refine r_iconst C dX12_winsBy_49 ?_
    exact r_zret C hw (by decide) hf dX12_winsBy_50
  · have hf := ite_f c4 hf
    refine r_iload_n C hl (kx := 4) rfl rfl dX12_winsBy_14 ?_
    refine r_i2l C dX12_winsBy_15 ?_
    refine r_iload_n C hl (kx := 2) rfl rfl dX12_winsBy_16 ?_
    obtain ⟨r6, μ5, e7, hf⟩ := bn_some hf
    refine r_callSv C hw (K := [(1, (nrm x3)), (0, x1)]) (c_X12_isIn l D b e7) mi_X12_isIn st_X12_isIn kl_12_322 rfl rfl (lvh_sz hl) ⟨by simp only [rm]; omega, by simp only [rm]; omega⟩ (Kr := []) rfl (Nat.le_of_ble_eq_true rfl) dX12_winsBy_17 (fun H locs hw => ?_)
    refine r_if_ne C (tgt := 49) (by decide) dX12_winsBy_20 (fun c8 => ?_) (fun c8 => ?_)
    · have hf := ite_f c8 hf
      refine r_iconst C dX12_winsBy_49 ?_
      exact r_zret C hw (by decide) hf dX12_winsBy_50
    · have hf := ite_t c8 hf
      refine r_aload_n C hl (kx := 1) rfl rfl dX12_winsBy_23 ?_
      refine r_iload_n C hl (kx := 2) rfl rfl dX12_winsBy_24 ?_
      obtain ⟨r10, μ9, e11, hf⟩ := bn_some hf
      refine r_callVv C hw (K := [(0, x1)]) ok12 t0 (c_X12_isOpen l D b t0 e11) mi_X12_isOpen in_X12_isOpen se_X12_isOpen kl_12_233 rfl rfl (lvh_sz hl) ⟨by simp only [rm]; omega, by simp only [rm]; omega⟩ (Kr := []) rfl (Nat.le_of_ble_eq_true rfl) dX12_winsBy_25 (fun H locs hw => ?_)
      refine r_if_eq C (tgt := 49) (by decide) dX12_winsBy_28 (fun c12 => ?_) (fun c12 => ?_)
      · have hf := ite_t c12 hf
        refine r_iconst C dX12_winsBy_49 ?_
        exact r_zret C hw (by decide) hf dX12_winsBy_50
      · have hf := ite_f c12 hf
        refine r_aload_n C hl (kx := 1) rfl rfl dX12_winsBy_31 ?_
        refine r_iload C hl (kx := 0) rfl dX12_winsBy_32 ?_
        refine r_iload_n C hl (kx := 4) rfl rfl dX12_winsBy_34 ?_
        refine r_iconst C dX12_winsBy_35 ?_
        refine r_iload_n C hl (kx := 2) rfl rfl dX12_winsBy_36 ?_
        refine r_ishl C dX12_winsBy_37 ?_
        refine r_ior C dX12_winsBy_38 ?_
        obtain ⟨r14, μ13, e15, hf⟩ := bn_some hf
        refine r_callVv C hw (K := [(0, r2), (0, (jor x3 (jshl 1 x1)))]) ok12 t0 (h_0 _ _ _ _ _ _ t0 e15) mi_X12_winsAt in_X12_winsAt se_X12_winsAt kl_12_386 rfl rfl (lvh_sz hl) ⟨by simp only [rm]; omega, by simp only [rm]; omega⟩ (Kr := []) rfl (Nat.le_of_ble_eq_true rfl) dX12_winsBy_39 (fun H locs hw => ?_)
        refine r_if_ne C (tgt := 49) (by decide) dX12_winsBy_42 (fun c16 => ?_) (fun c16 => ?_)
        · have hf := ite_f c16 hf
          refine r_iconst C dX12_winsBy_49 ?_
          exact r_zret C hw (by decide) hf dX12_winsBy_50
        · have hf := ite_t c16 hf
          refine r_iconst C dX12_winsBy_45 ?_
          refine r_goto C (tgt := 50) (by decide) dX12_winsBy_46 ?_
          exact r_zret C hw (by decide) hf dX12_winsBy_50
set_option maxHeartbeats 4000000 in
theorem cg_X12_winsAt (l : Launch) (D : Ds) (b : Nat) : ∀ n0 : Nat, (∀ (x0 x1 x2 : Int) (μ μ' : Mem) (r : Int), isK x0 12 → g_X12_winsAt n0 0 x0 x1 x2 0 μ = some (r, μ') → Ctr l D b yX12_winsAt cX12_winsAt 6 (some .boolean) (n0 + 4) [(2, x0), (0, x1), (0, x2)] μ (some (.int (jI r))) μ') ∧ (∀ (x0 x1 x2 x3 : Int) (μ μ' : Mem) (r : Int), isK x0 12 → g_X12_winsAt n0 1 x0 x1 x2 x3 μ = some (r, μ') → Ctr l D b yX12_winsBy cX12_winsBy 5 (some .boolean) (n0 + 4) [(2, x0), (0, x1), (0, x2), (0, x3)] μ (some (.int (jI r))) μ') := by
  intro n0
  induction n0 with
  | zero => exact ⟨fun _ _ _ _ _ _ _ hf => (by cases hf), fun _ _ _ _ _ _ _ _ hf => (by cases hf)⟩
  | succ n0 ih =>
    obtain ⟨h_0, h_1⟩ := ih
    refine ⟨?_, ?_⟩
    · intro x0 x1 x2 μ μ' r t0 hf
      rw [g_X12_winsAt.eq_2] at hf
      have hf := ite_t rfl hf
      refine Ctr.of (by decide +kernel) (Nat.le_of_ble_eq_true rfl) ?_
      intro p e s m below meth c C hw ls hl
      have hq := w_X12_winsAt_0 C (r := r) (μ' := μ') (n0 := n0) (e := e) (below := below) _ h_0 h_1 hf t0 hw hl
      exact hq
    · intro x0 x1 x2 x3 μ μ' r t0 hf
      rw [g_X12_winsAt.eq_2] at hf
      have hf := ite_t rfl (ite_f (by decide) hf)
      refine Ctr.of (by decide +kernel) (Nat.le_of_ble_eq_true rfl) ?_
      intro p e s m below meth c C hw ls hl
      have hq := w_X12_winsBy_0 C (r := r) (μ' := μ') (n0 := n0) (e := e) (below := below) _ h_0 h_1 hf t0 hw hl
      exact hq
theorem c_X12_winsAt (l : Launch) (D : Ds) (b : Nat) {x0 x1 x2 : Int} {μ μ' : Mem} {r : Int} (t0 : isK x0 12) (hf : f_X12_winsAt x0 x1 x2 μ = some (r, μ')) : Ctr l D b yX12_winsAt cX12_winsAt 6 (some .boolean) 68 [(2, x0), (0, x1), (0, x2)] μ (some (.int (jI r))) μ' := (cg_X12_winsAt l D b 64).1 _ _ _ _ _ _ t0 hf
theorem c_X12_winsBy (l : Launch) (D : Ds) (b : Nat) {x0 x1 x2 x3 : Int} {μ μ' : Mem} {r : Int} (t0 : isK x0 12) (hf : f_X12_winsBy x0 x1 x2 x3 μ = some (r, μ')) : Ctr l D b yX12_winsBy cX12_winsBy 5 (some .boolean) 68 [(2, x0), (0, x1), (0, x2), (0, x3)] μ (some (.int (jI r))) μ' := (cg_X12_winsAt l D b 64).2 _ _ _ _ _ _ _ t0 hf
set_option maxHeartbeats 4000000 in
set_option maxRecDepth 20000 in
theorem w_X12_forgets_2 (C : Cx p s m args meth c D b cX12_forgets 2 RX12 (none)) {r : Int} {μ' : Mem} : ∀ (n : Nat) (x0 x1 : Int) (μ : Mem) (H : Heap) (locs : List Loc) (ls : Array Slot), f_X12_forgets_w2 n x0 x1 μ = some (r, μ') → isK x0 12 → Hw D b μ s.heap H locs → lvh b ls 2 [(0, 2, x0), (1, 0, x1)] → W p l e (rm 0) s m args below meth c H locs 0 0 (QM below args s D b none μ') (F0 m 2 ls []) := by
  intro n
  induction n with
  | zero => intro x0 x1 μ H locs ls hf; cases hf
  | succ n ih =>
    intro x0 x1 μ H locs ls hf t0 hw hl
    rw [f_X12_forgets_w2.eq_2] at hf
    refine r_iload_n C hl (kx := 1) rfl rfl dX12_forgets_2 ?_
    refine r_sipush C (by decide) dX12_forgets_3 ?_
    refine r_icmp_ge C (tgt := 22) (by decide) dX12_forgets_6 (fun c1 => ?_) (fun c1 => ?_)
    · have hf := ite_t c1 hf
      exact r_vret C hw hf dX12_forgets_22
    · have hf := ite_f c1 hf
      refine r_aload_n C hl (kx := 0) rfl rfl dX12_forgets_9 ?_
      refine gf_12_54 C hw t0 dX12_forgets_10 ?_
      refine r_iload_n C hl (kx := 1) rfl rfl dX12_forgets_13 ?_
      refine r_iconst C dX12_forgets_14 ?_
      obtain ⟨g4, hf⟩ := gd_some hf
      obtain ⟨μ2, e3, hf⟩ := nm_some hf
      refine r_zast C hw (n := 3584) (ow_12_27 t0) (j := (nrm x1)) rfl g4 (by decide) (by decide) dX12_forgets_15 (fun H locs hw => ?_)
      rw [← e3] at hw
      refine r_iinc C hl (kx := 1) rfl (by decide) (L' := [(1, 0, (x1 + 1)), (0, 2, x0)]) rfl dX12_forgets_16 (fun ls hl => ?_)
      refine r_goto C (tgt := 2) (by decide) dX12_forgets_19 ?_
      exact ih _ _ _ _ _ _ hf t0 hw (lvh_sub hl [1, 0] rfl)
set_option maxHeartbeats 4000000 in
set_option maxRecDepth 20000 in
theorem w_X12_forgets_0 (C : Cx p s m args meth c D b cX12_forgets 2 RX12 (none)) {r : Int} {μ' : Mem} {x0 : Int} {μ : Mem} {H : Heap} {locs : List Loc} {ls : Array Slot} (hf : f_X12_forgets x0 μ = some (r, μ')) (t0 : isK x0 12) (hw : Hw D b μ s.heap H locs) (hl : lvh b ls 2 [(0, 2, x0)]) : W p l e (rm 0) s m args below meth c H locs 0 0 (QM below args s D b none μ') (F0 m 0 ls []) := by
  unfold f_X12_forgets at hf
  refine r_iconst C dX12_forgets_0 ?_
  refine r_istore_n C hl (by decide) (L' := [(1, 0, 0), (0, 2, x0)]) rfl rfl dX12_forgets_1 (fun ls hl => ?_)
  exact w_X12_forgets_2 C FU _ _ _ _ _ _ hf t0 hw (lvh_sub hl [1, 0] rfl)
theorem c_X12_forgets (l : Launch) (D : Ds) (b : Nat) {x0 : Int} {μ μ' : Mem} {r : Int} (t0 : isK x0 12) (hf : f_X12_forgets x0 μ = some (r, μ')) : Ctr l D b yX12_forgets cX12_forgets 2 (none) 0 [(2, x0)] μ none μ' := by
  refine Ctr.of (by decide +kernel) (Nat.le_of_ble_eq_true rfl) ?_
  intro p e s m below meth c C hw ls hl
  exact w_X12_forgets_0 C hf t0 hw hl
set_option maxHeartbeats 4000000 in
set_option maxRecDepth 20000 in
theorem w_X12_wins_0 (C : Cx p s m args meth c D b cX12_wins 1 RX12 (some .int)) {r : Int} {μ' : Mem} {x0 : Int} {μ : Mem} {H : Heap} {locs : List Loc} {ls : Array Slot} (hf : f_X12_wins x0 μ = some (r, μ')) (t0 : isK x0 12) (hw : Hw D b μ s.heap H locs) (hl : lvh b ls 1 [(0, 2, x0)]) : W p l e (rm 69) s m args below meth c H locs 0 0 (QM below args s D b (some (.int (jI r))) μ') (F0 m 0 ls []) := by
  unfold f_X12_wins at hf
  refine r_aload_n C hl (kx := 0) rfl rfl dX12_wins_0 ?_
  refine r_iconst C dX12_wins_1 ?_
  obtain ⟨μ1, e2, hf⟩ := nm_some hf
  refine pf_12_1 C hw t0 dX12_wins_2 (fun H locs hw => ?_)
  rw [← e2] at hw
  refine r_aload_n C hl (kx := 0) rfl rfl dX12_wins_5 ?_
  obtain ⟨r4, μ3, e5, hf⟩ := bn_some hf
  refine r_callVn C hw (K := []) ok12 t0 (c_X12_forgets l D b t0 e5) mi_X12_forgets in_X12_forgets se_X12_forgets kl_12_389 rfl rfl (lvh_sz hl) (by decide) (Kr := []) rfl (Nat.le_of_ble_eq_true rfl) dX12_wins_6 (fun H locs hw => ?_)
  refine r_aload_n C hl (kx := 0) rfl rfl dX12_wins_9 ?_
  refine r_aload_n C hl (kx := 0) rfl rfl dX12_wins_10 ?_
  refine gf_12_13 C hw t0 dX12_wins_11 ?_
  refine r_bipush C (by decide) dX12_wins_14 ?_
  refine r_iald C hw (n := 3300) (ow_12_1 t0) (j := 55) (by decide) (by decide) (by decide) dX12_wins_16 ?_
  refine r_iconst C dX12_wins_17 ?_
  obtain ⟨r7, μ6, e8, hf⟩ := bn_some hf
  refine r_callVv C hw (K := [(0, (μ3 (x0 + 1) 55)), (0, 0)]) ok12 t0 (c_X12_winsAt l D b t0 e8) mi_X12_winsAt in_X12_winsAt se_X12_winsAt kl_12_386 rfl rfl (lvh_sz hl) (by decide) (Kr := []) rfl (Nat.le_of_ble_eq_true rfl) dX12_wins_18 (fun H locs hw => ?_)
  refine r_if_eq C (tgt := 28) (by decide) dX12_wins_21 (fun c9 => ?_) (fun c9 => ?_)
  · have hf := ite_t c9 hf
    refine r_iconst C dX12_wins_28 ?_
    exact r_iret C hw hf dX12_wins_29
  · have hf := ite_f c9 hf
    refine r_iconst C dX12_wins_24 ?_
    refine r_goto C (tgt := 29) (by decide) dX12_wins_25 ?_
    exact r_iret C hw hf dX12_wins_29
theorem c_X12_wins (l : Launch) (D : Ds) (b : Nat) {x0 : Int} {μ μ' : Mem} {r : Int} (t0 : isK x0 12) (hf : f_X12_wins x0 μ = some (r, μ')) : Ctr l D b yX12_wins cX12_wins 1 (some .int) 69 [(2, x0)] μ (some (.int (jI r))) μ' := by
  refine Ctr.of (by decide +kernel) (Nat.le_of_ble_eq_true rfl) ?_
  intro p e s m below meth c C hw ls hl
  exact w_X12_wins_0 C hf t0 hw hl
set_option maxHeartbeats 4000000 in
set_option maxRecDepth 20000 in
theorem w_X12_best_11 (C : Cx p s m args meth c D b cX12_best 2 RX12 (some .int)) {r : Int} {μ' : Mem} : ∀ (n : Nat) (x0 x1 : Int) (μ : Mem) (H : Heap) (locs : List Loc) (ls : Array Slot), f_X12_best_w11 n x0 x1 μ = some (r, μ') → isK x0 12 → Hw D b μ s.heap H locs → lvh b ls 2 [(0, 2, x0), (1, 0, x1)] → W p l e (rm 69) s m args below meth c H locs 0 0 (QM below args s D b (some (.int (jI r))) μ') (F0 m 11 ls []) := by
  intro n
  induction n with
  | zero => intro x0 x1 μ H locs ls hf; cases hf
  | succ n ih =>
    intro x0 x1 μ H locs ls hf t0 hw hl
    rw [f_X12_best_w11.eq_2] at hf
    refine r_iload_n C hl (kx := 1) rfl rfl dX12_best_11 ?_
    refine r_aload_n C hl (kx := 0) rfl rfl dX12_best_12 ?_
    refine gf_12_13 C hw t0 dX12_best_13 ?_
    refine r_iconst C dX12_best_16 ?_
    refine r_iald C hw (n := 3300) (ow_12_1 t0) (j := 2) (by decide) (by decide) (by decide) dX12_best_17 ?_
    refine r_icmp_ge C (tgt := 45) (by decide) dX12_best_18 (fun c1 => ?_) (fun c1 => ?_)
    · have hf := ite_t c1 hf
      refine r_iconst C dX12_best_45 ?_
      exact r_iret C hw hf dX12_best_46
    · have hf := ite_f c1 hf
      refine r_aload_n C hl (kx := 0) rfl rfl dX12_best_21 ?_
      refine r_iload_n C hl (kx := 1) rfl rfl dX12_best_22 ?_
      refine r_aload_n C hl (kx := 0) rfl rfl dX12_best_23 ?_
      refine gf_12_13 C hw t0 dX12_best_24 ?_
      refine r_bipush C (by decide) dX12_best_27 ?_
      refine r_iald C hw (n := 3300) (ow_12_1 t0) (j := 55) (by decide) (by decide) (by decide) dX12_best_29 ?_
      refine r_iconst C dX12_best_30 ?_
      obtain ⟨r3, μ2, e4, hf⟩ := bn_some hf
      refine r_callVv C hw (K := [(0, x1), (0, (μ (x0 + 1) 55)), (0, 0)]) ok12 t0 (c_X12_winsBy l D b t0 e4) mi_X12_winsBy in_X12_winsBy se_X12_winsBy kl_12_382 rfl rfl (lvh_sz hl) (by decide) (Kr := []) rfl (Nat.le_of_ble_eq_true rfl) dX12_best_31 (fun H locs hw => ?_)
      refine r_if_eq C (tgt := 39) (by decide) dX12_best_34 (fun c5 => ?_) (fun c5 => ?_)
      · have hf := ite_t c5 hf
        refine r_iinc C hl (kx := 1) rfl (by decide) (L' := [(1, 0, (x1 + 1)), (0, 2, x0)]) rfl dX12_best_39 (fun ls hl => ?_)
        refine r_goto C (tgt := 11) (by decide) dX12_best_42 ?_
        exact ih _ _ _ _ _ _ hf t0 hw (lvh_sub hl [1, 0] rfl)
      · have hf := ite_f c5 hf
        refine r_iload_n C hl (kx := 1) rfl rfl dX12_best_37 ?_
        exact r_iret C hw hf dX12_best_38
set_option maxHeartbeats 4000000 in
set_option maxRecDepth 20000 in
theorem w_X12_best_0 (C : Cx p s m args meth c D b cX12_best 2 RX12 (some .int)) {r : Int} {μ' : Mem} {x0 : Int} {μ : Mem} {H : Heap} {locs : List Loc} {ls : Array Slot} (hf : f_X12_best x0 μ = some (r, μ')) (t0 : isK x0 12) (hw : Hw D b μ s.heap H locs) (hl : lvh b ls 2 [(0, 2, x0)]) : W p l e (rm 69) s m args below meth c H locs 0 0 (QM below args s D b (some (.int (jI r))) μ') (F0 m 0 ls []) := by
  unfold f_X12_best at hf
  refine r_aload_n C hl (kx := 0) rfl rfl dX12_best_0 ?_
  refine r_iconst C dX12_best_1 ?_
  obtain ⟨μ1, e2, hf⟩ := nm_some hf
  refine pf_12_1 C hw t0 dX12_best_2 (fun H locs hw => ?_)
  rw [← e2] at hw
  refine r_aload_n C hl (kx := 0) rfl rfl dX12_best_5 ?_
  obtain ⟨r4, μ3, e5, hf⟩ := bn_some hf
  refine r_callVn C hw (K := []) ok12 t0 (c_X12_forgets l D b t0 e5) mi_X12_forgets in_X12_forgets se_X12_forgets kl_12_389 rfl rfl (lvh_sz hl) (by decide) (Kr := []) rfl (Nat.le_of_ble_eq_true rfl) dX12_best_6 (fun H locs hw => ?_)
  refine r_iconst C dX12_best_9 ?_
  refine r_istore_n C hl (by decide) (L' := [(1, 0, 0), (0, 2, x0)]) rfl rfl dX12_best_10 (fun ls hl => ?_)
  exact w_X12_best_11 C FU _ _ _ _ _ _ hf t0 hw (lvh_sub hl [1, 0] rfl)
theorem c_X12_best (l : Launch) (D : Ds) (b : Nat) {x0 : Int} {μ μ' : Mem} {r : Int} (t0 : isK x0 12) (hf : f_X12_best x0 μ = some (r, μ')) : Ctr l D b yX12_best cX12_best 2 (some .int) 69 [(2, x0)] μ (some (.int (jI r))) μ' := by
  refine Ctr.of (by decide +kernel) (Nat.le_of_ble_eq_true rfl) ?_
  intro p e s m below meth c C hw ls hl
  exact w_X12_best_0 C hf t0 hw hl
set_option maxHeartbeats 4000000 in
set_option maxRecDepth 20000 in
theorem w_X12_wholeOf_4 (C : Cx p s m args meth c D b cX12_wholeOf 3 RX12 (some .int)) {r : Int} {μ' : Mem} : ∀ (n : Nat) (x0 x1 x2 : Int) (μ : Mem) (H : Heap) (locs : List Loc) (ls : Array Slot), f_X12_wholeOf_w4 n x0 x1 x2 μ = some (r, μ') → Hw D b μ s.heap H locs → lvh b ls 3 [(0, 0, x0), (1, 0, x1), (2, 0, x2)] → W p l e (rm 0) s m args below meth c H locs 0 0 (QM below args s D b (some (.int (jI r))) μ') (F0 m 4 ls []) := by
  intro n
  induction n with
  | zero => intro x0 x1 x2 μ H locs ls hf; cases hf
  | succ n ih =>
    intro x0 x1 x2 μ H locs ls hf hw hl
    rw [f_X12_wholeOf_w4.eq_2] at hf
    refine r_iload_n C hl (kx := 2) rfl rfl dX12_wholeOf_4 ?_
    refine r_iload_n C hl (kx := 0) rfl rfl dX12_wholeOf_5 ?_
    refine r_icmp_ge C (tgt := 20) (by decide) dX12_wholeOf_6 (fun c1 => ?_) (fun c1 => ?_)
    · have hf := ite_t c1 hf
      refine r_iload_n C hl (kx := 1) rfl rfl dX12_wholeOf_20 ?_
      exact r_iret C hw hf dX12_wholeOf_21
    · have hf := ite_f c1 hf
      refine r_iload_n C hl (kx := 1) rfl rfl dX12_wholeOf_9 ?_
      refine r_bipush C (by decide) dX12_wholeOf_10 ?_
      refine r_imul C dX12_wholeOf_12 ?_
      obtain ⟨v2, e3, hf⟩ := nm_some hf
      refine top_i e3 ?_
      refine r_istore_n C hl (by decide) (L' := [(1, 0, v2), (0, 0, x0), (2, 0, x2)]) rfl rfl dX12_wholeOf_13 (fun ls hl => ?_)
      refine r_iinc C hl (kx := 2) rfl (by decide) (L' := [(2, 0, (x2 + 1)), (1, 0, v2), (0, 0, x0)]) rfl dX12_wholeOf_14 (fun ls hl => ?_)
      refine r_goto C (tgt := 4) (by decide) dX12_wholeOf_17 ?_
      exact ih _ _ _ _ _ _ _ hf hw (lvh_sub hl [2, 1, 0] rfl)
set_option maxHeartbeats 4000000 in
set_option maxRecDepth 20000 in
theorem w_X12_wholeOf_0 (C : Cx p s m args meth c D b cX12_wholeOf 3 RX12 (some .int)) {r : Int} {μ' : Mem} {x0 : Int} {μ : Mem} {H : Heap} {locs : List Loc} {ls : Array Slot} (hf : f_X12_wholeOf x0 μ = some (r, μ')) (hw : Hw D b μ s.heap H locs) (hl : lvh b ls 3 [(0, 0, x0)]) : W p l e (rm 0) s m args below meth c H locs 0 0 (QM below args s D b (some (.int (jI r))) μ') (F0 m 0 ls []) := by
  unfold f_X12_wholeOf at hf
  refine r_iconst C dX12_wholeOf_0 ?_
  refine r_istore_n C hl (by decide) (L' := [(1, 0, 1), (0, 0, x0)]) rfl rfl dX12_wholeOf_1 (fun ls hl => ?_)
  refine r_iconst C dX12_wholeOf_2 ?_
  refine r_istore_n C hl (by decide) (L' := [(2, 0, 0), (1, 0, 1), (0, 0, x0)]) rfl rfl dX12_wholeOf_3 (fun ls hl => ?_)
  exact w_X12_wholeOf_4 C FU _ _ _ _ _ _ _ hf hw (lvh_sub hl [2, 1, 0] rfl)
theorem c_X12_wholeOf (l : Launch) (D : Ds) (b : Nat) {x0 : Int} {μ μ' : Mem} {r : Int} (hf : f_X12_wholeOf x0 μ = some (r, μ')) : Ctr l D b yX12_wholeOf cX12_wholeOf 3 (some .int) 0 [(0, x0)] μ (some (.int (jI r))) μ' := by
  refine Ctr.of (by decide +kernel) (Nat.le_of_ble_eq_true rfl) ?_
  intro p e s m below meth c C hw ls hl
  exact w_X12_wholeOf_0 C hf hw hl
set_option maxHeartbeats 4000000 in
set_option maxRecDepth 20000 in
theorem w_X12_likelyBy_0 (C : Cx p s m args meth c D b cX12_likelyBy 5 RX12 (some .int)) {r : Int} {μ' : Mem} {x0 x1 x2 x3 : Int} {μ : Mem} {H : Heap} {locs : List Loc} {ls : Array Slot} (hf : f_X12_likelyBy x0 x1 x2 x3 μ = some (r, μ')) (t0 : isK x0 12) (hw : Hw D b μ s.heap H locs) (hl : lvh b ls 5 [(0, 2, x0), (1, 0, x1), (2, 0, x2), (3, 0, x3)]) : W p l e (rm 4) s m args below meth c H locs 0 0 (QM below args s D b (some (.int (jI r))) μ') (F0 m 0 ls []) := by
  unfold f_X12_likelyBy at hf
  refine r_aload_n C hl (kx := 0) rfl rfl dX12_likelyBy_0 ?_
  refine r_iload_n C hl (kx := 1) rfl rfl dX12_likelyBy_1 ?_
  refine r_iload_n C hl (kx := 2) rfl rfl dX12_likelyBy_2 ?_
  obtain ⟨r2, μ1, e3, hf⟩ := bn_some hf
  refine r_callVv C hw (K := [(0, x1), (0, x2)]) ok12 t0 (c_X12_otherEnd l D b t0 e3) mi_X12_otherEnd in_X12_otherEnd se_X12_otherEnd kl_12_230 rfl rfl (lvh_sz hl) (by decide) (Kr := []) rfl (Nat.le_of_ble_eq_true rfl) dX12_likelyBy_3 (fun H locs hw => ?_)
  refine r_istore C hl (by decide) (L' := [(4, 0, r2), (0, 2, x0), (1, 0, x1), (2, 0, x2), (3, 0, x3)]) rfl dX12_likelyBy_6 (fun ls hl => ?_)
  refine r_iload C hl (kx := 0) rfl dX12_likelyBy_8 ?_
  refine r_iconst C dX12_likelyBy_10 ?_
  refine r_icmp_eq C (tgt := 22) (by decide) dX12_likelyBy_11 (fun c4 => ?_) (fun c4 => ?_)
  · have hf := ite_t c4 hf
    refine r_iconst C dX12_likelyBy_22 ?_
    refine r_goto C (tgt := 53) (by decide) dX12_likelyBy_23 ?_
    exact r_iret C hw hf dX12_likelyBy_53
  · have hf := ite_f c4 hf
    refine r_aload_n C hl (kx := 1) rfl rfl dX12_likelyBy_14 ?_
    refine r_iload_n C hl (kx := 2) rfl rfl dX12_likelyBy_15 ?_
    obtain ⟨r6, μ5, e7, hf⟩ := bn_some hf
    refine r_callVv C hw (K := [(0, x1)]) ok12 t0 (c_X12_isOpen l D b t0 e7) mi_X12_isOpen in_X12_isOpen se_X12_isOpen kl_12_233 rfl rfl (lvh_sz hl) (by decide) (Kr := []) rfl (Nat.le_of_ble_eq_true rfl) dX12_likelyBy_16 (fun H locs hw => ?_)
    refine r_if_ne C (tgt := 26) (by decide) dX12_likelyBy_19 (fun c8 => ?_) (fun c8 => ?_)
    · have hf := ite_f c8 hf
      refine r_bipush C (by decide) dX12_likelyBy_26 ?_
      refine r_aload_n C hl (kx := 1) rfl rfl dX12_likelyBy_28 ?_
      refine gf_12_13 C hw t0 dX12_likelyBy_29 ?_
      refine r_bipush C (by decide) dX12_likelyBy_32 ?_
      refine r_iload_n C hl (kx := 2) rfl rfl dX12_likelyBy_34 ?_
      refine r_iadd C dX12_likelyBy_35 ?_
      obtain ⟨g9, hf⟩ := gd_some hf
      refine r_iald C hw (n := 3300) (ow_12_1 t0) (j := (nrm (38 + x1))) rfl g9 (by decide) dX12_likelyBy_36 ?_
      refine r_isub C dX12_likelyBy_37 ?_
      refine r_aload_n C hl (kx := 1) rfl rfl dX12_likelyBy_38 ?_
      refine gf_12_57 C hw t0 dX12_likelyBy_39 ?_
      refine r_bipush C (by decide) dX12_likelyBy_42 ?_
      refine r_iload_n C hl (kx := 4) rfl rfl dX12_likelyBy_44 ?_
      refine r_iconst C dX12_likelyBy_45 ?_
      refine r_isub C dX12_likelyBy_46 ?_
      refine r_imul C dX12_likelyBy_47 ?_
      refine r_iload C hl (kx := 0) rfl dX12_likelyBy_48 ?_
      refine r_iadd C dX12_likelyBy_50 ?_
      obtain ⟨g10, hf⟩ := gd_some hf
      refine r_iald C hw (n := 56) (ow_12_28 t0) (j := (nrm ((7 * (x3 - 1)) + r2))) rfl g10 (by decide) dX12_likelyBy_51 ?_
      refine r_imul C dX12_likelyBy_52 ?_
      exact r_iret C hw hf dX12_likelyBy_53
    · have hf := ite_t c8 hf
      refine r_iconst C dX12_likelyBy_22 ?_
      refine r_goto C (tgt := 53) (by decide) dX12_likelyBy_23 ?_
      exact r_iret C hw hf dX12_likelyBy_53
theorem c_X12_likelyBy (l : Launch) (D : Ds) (b : Nat) {x0 x1 x2 x3 : Int} {μ μ' : Mem} {r : Int} (t0 : isK x0 12) (hf : f_X12_likelyBy x0 x1 x2 x3 μ = some (r, μ')) : Ctr l D b yX12_likelyBy cX12_likelyBy 5 (some .int) 4 [(2, x0), (0, x1), (0, x2), (0, x3)] μ (some (.int (jI r))) μ' := by
  refine Ctr.of (by decide +kernel) (Nat.le_of_ble_eq_true rfl) ?_
  intro p e s m below meth c C hw ls hl
  exact w_X12_likelyBy_0 C hf t0 hw hl
set_option maxHeartbeats 4000000 in
set_option maxRecDepth 20000 in
theorem w_X12_laysLikely_97 (C : Cx p s m args meth c D b cX12_laysLikely 7 RX12 (some .int)) {r : Int} {μ' : Mem} (k2 : Int → Int → Int → Int → Mem → Option (Int × Mem)) (h2 : ∀ (x0 x1 x2 x3 : Int) (μ : Mem) (H : Heap) (locs : List Loc) (ls : Array Slot), k2 x0 x1 x2 x3 μ = some (r, μ') → isK x0 12 → Hw D b μ s.heap H locs → lvh b ls 7 [(0, 2, x0), (1, 0, x1), (2, 0, x2), (3, 0, x3)] → W p l e (rm 5) s m args below meth c H locs 0 0 (QM below args s D b (some (.int (jI r))) μ') (F0 m 2 ls [])) (k10 : Int → Int → Int → Int → Int → Mem → Option (Int × Mem)) (h10 : ∀ (x0 x1 x2 x3 x4 : Int) (μ : Mem) (H : Heap) (locs : List Loc) (ls : Array Slot), k10 x0 x1 x2 x3 x4 μ = some (r, μ') → isK x0 12 → Hw D b μ s.heap H locs → lvh b ls 7 [(0, 2, x0), (1, 0, x1), (2, 0, x2), (3, 0, x3), (4, 0, x4)] → W p l e (rm 5) s m args below meth c H locs 0 0 (QM below args s D b (some (.int (jI r))) μ') (F0 m 10 ls [])) {x0 x1 x2 x3 x4 x5 : Int} {μ : Mem} {H : Heap} {locs : List Loc} {ls : Array Slot} (hf : f_X12_laysLikely_j97 k2 k10 x0 x1 x2 x3 x4 x5 μ = some (r, μ')) (t0 : isK x0 12) (hw : Hw D b μ s.heap H locs) (hl : lvh b ls 7 [(0, 2, x0), (1, 0, x1), (2, 0, x2), (3, 0, x3), (4, 0, x4), (5, 0, x5)]) : W p l e (rm 5) s m args below meth c H locs 0 0 (QM below args s D b (some (.int (jI r))) μ') (F0 m 97 ls []) := by
  unfold f_X12_laysLikely_j97 at hf
  refine r_aload_n C hl (kx := 0) rfl rfl dX12_laysLikely_97 ?_
  refine gf_12_57 C hw t0 dX12_laysLikely_98 ?_
  refine r_bipush C (by decide) dX12_laysLikely_101 ?_
  refine r_iload_n C hl (kx := 3) rfl rfl dX12_laysLikely_103 ?_
  refine r_imul C dX12_laysLikely_104 ?_
  refine r_iload C hl (kx := 4) rfl dX12_laysLikely_105 ?_
  refine r_iadd C dX12_laysLikely_107 ?_
  refine r_iload C hl (kx := 5) rfl dX12_laysLikely_108 ?_
  obtain ⟨g3, hf⟩ := gd_some hf
  obtain ⟨μ1, e2, hf⟩ := nm_some hf
  refine r_iast C hw (n := 56) (ow_12_28 t0) (j := (nrm ((7 * x3) + x4))) rfl g3 (by decide) dX12_laysLikely_110 (fun H locs hw => ?_)
  rw [← e2] at hw
  refine r_iinc C hl (kx := 4) rfl (by decide) (L' := [(4, 0, (x4 + 1)), (0, 2, x0), (1, 0, x1), (2, 0, x2), (3, 0, x3), (5, 0, x5)]) rfl dX12_laysLikely_111 (fun ls hl => ?_)
  refine r_goto C (tgt := 10) (by decide) dX12_laysLikely_114 ?_
  exact h10 _ _ _ _ _ _ _ _ _ hf t0 hw (lvh_sub hl [1, 2, 3, 4, 0] rfl)
set_option maxHeartbeats 4000000 in
set_option maxRecDepth 20000 in
theorem w_X12_laysLikely_89 (C : Cx p s m args meth c D b cX12_laysLikely 7 RX12 (some .int)) {r : Int} {μ' : Mem} (k2 : Int → Int → Int → Int → Mem → Option (Int × Mem)) (h2 : ∀ (x0 x1 x2 x3 : Int) (μ : Mem) (H : Heap) (locs : List Loc) (ls : Array Slot), k2 x0 x1 x2 x3 μ = some (r, μ') → isK x0 12 → Hw D b μ s.heap H locs → lvh b ls 7 [(0, 2, x0), (1, 0, x1), (2, 0, x2), (3, 0, x3)] → W p l e (rm 5) s m args below meth c H locs 0 0 (QM below args s D b (some (.int (jI r))) μ') (F0 m 2 ls [])) (k10 : Int → Int → Int → Int → Int → Mem → Option (Int × Mem)) (h10 : ∀ (x0 x1 x2 x3 x4 : Int) (μ : Mem) (H : Heap) (locs : List Loc) (ls : Array Slot), k10 x0 x1 x2 x3 x4 μ = some (r, μ') → isK x0 12 → Hw D b μ s.heap H locs → lvh b ls 7 [(0, 2, x0), (1, 0, x1), (2, 0, x2), (3, 0, x3), (4, 0, x4)] → W p l e (rm 5) s m args below meth c H locs 0 0 (QM below args s D b (some (.int (jI r))) μ') (F0 m 10 ls [])) (k40 : Int → Int → Int → Int → Int → Int → Int → Mem → Option (Int × Mem)) (h40 : ∀ (x0 x1 x2 x3 x4 x5 x6 : Int) (μ : Mem) (H : Heap) (locs : List Loc) (ls : Array Slot), k40 x0 x1 x2 x3 x4 x5 x6 μ = some (r, μ') → isK x0 12 → Hw D b μ s.heap H locs → lvh b ls 7 [(0, 2, x0), (1, 0, x1), (2, 0, x2), (3, 0, x3), (4, 0, x4), (5, 0, x5), (6, 0, x6)] → W p l e (rm 5) s m args below meth c H locs 0 0 (QM below args s D b (some (.int (jI r))) μ') (F0 m 40 ls [])) {x0 x1 x2 x3 x4 x6 s0 : Int} {μ : Mem} {H : Heap} {locs : List Loc} {ls : Array Slot} (hf : f_X12_laysLikely_j89 k2 k10 k40 x0 x1 x2 x3 x4 x6 s0 μ = some (r, μ')) (t0 : isK x0 12) (hw : Hw D b μ s.heap H locs) (hl : lvh b ls 7 [(0, 2, x0), (1, 0, x1), (2, 0, x2), (3, 0, x3), (4, 0, x4), (6, 0, x6)]) : W p l e (rm 5) s m args below meth c H locs 0 0 (QM below args s D b (some (.int (jI r))) μ') (F0 m 89 ls [.int (jI s0)]) := by
  unfold f_X12_laysLikely_j89 at hf
  refine r_istore C hl (by decide) (L' := [(5, 0, s0), (0, 2, x0), (1, 0, x1), (2, 0, x2), (3, 0, x3), (4, 0, x4), (6, 0, x6)]) rfl dX12_laysLikely_89 (fun ls hl => ?_)
  refine r_iinc C hl (kx := 6) rfl (by decide) (L' := [(6, 0, (x6 + 1)), (5, 0, s0), (0, 2, x0), (1, 0, x1), (2, 0, x2), (3, 0, x3), (4, 0, x4)]) rfl dX12_laysLikely_91 (fun ls hl => ?_)
  refine r_goto C (tgt := 40) (by decide) dX12_laysLikely_94 ?_
  exact h40 _ _ _ _ _ _ _ _ _ _ _ hf t0 hw (lvh_sub hl [2, 3, 4, 5, 6, 1, 0] rfl)
set_option maxHeartbeats 4000000 in
set_option maxRecDepth 20000 in
theorem w_X12_laysLikely_40 (C : Cx p s m args meth c D b cX12_laysLikely 7 RX12 (some .int)) {r : Int} {μ' : Mem} (k2 : Int → Int → Int → Int → Mem → Option (Int × Mem)) (h2 : ∀ (x0 x1 x2 x3 : Int) (μ : Mem) (H : Heap) (locs : List Loc) (ls : Array Slot), k2 x0 x1 x2 x3 μ = some (r, μ') → isK x0 12 → Hw D b μ s.heap H locs → lvh b ls 7 [(0, 2, x0), (1, 0, x1), (2, 0, x2), (3, 0, x3)] → W p l e (rm 5) s m args below meth c H locs 0 0 (QM below args s D b (some (.int (jI r))) μ') (F0 m 2 ls [])) (k10 : Int → Int → Int → Int → Int → Mem → Option (Int × Mem)) (h10 : ∀ (x0 x1 x2 x3 x4 : Int) (μ : Mem) (H : Heap) (locs : List Loc) (ls : Array Slot), k10 x0 x1 x2 x3 x4 μ = some (r, μ') → isK x0 12 → Hw D b μ s.heap H locs → lvh b ls 7 [(0, 2, x0), (1, 0, x1), (2, 0, x2), (3, 0, x3), (4, 0, x4)] → W p l e (rm 5) s m args below meth c H locs 0 0 (QM below args s D b (some (.int (jI r))) μ') (F0 m 10 ls [])) : ∀ (n : Nat) (x0 x1 x2 x3 x4 x5 x6 : Int) (μ : Mem) (H : Heap) (locs : List Loc) (ls : Array Slot), f_X12_laysLikely_w40 k2 k10 n x0 x1 x2 x3 x4 x5 x6 μ = some (r, μ') → isK x0 12 → Hw D b μ s.heap H locs → lvh b ls 7 [(0, 2, x0), (1, 0, x1), (2, 0, x2), (3, 0, x3), (4, 0, x4), (5, 0, x5), (6, 0, x6)] → W p l e (rm 5) s m args below meth c H locs 0 0 (QM below args s D b (some (.int (jI r))) μ') (F0 m 40 ls []) := by
  intro n
  induction n with
  | zero => intro x0 x1 x2 x3 x4 x5 x6 μ H locs ls hf; cases hf
  | succ n ih =>
    intro x0 x1 x2 x3 x4 x5 x6 μ H locs ls hf t0 hw hl
    rw [f_X12_laysLikely_w40.eq_2] at hf
    refine r_iload C hl (kx := 6) rfl dX12_laysLikely_40 ?_
    refine r_aload_n C hl (kx := 0) rfl rfl dX12_laysLikely_42 ?_
    refine gf_12_13 C hw t0 dX12_laysLikely_43 ?_
    refine r_iconst C dX12_laysLikely_46 ?_
    refine r_iald C hw (n := 3300) (ow_12_1 t0) (j := 2) (by decide) (by decide) (by decide) dX12_laysLikely_47 ?_
    refine r_icmp_ge C (tgt := 97) (by decide) dX12_laysLikely_48 (fun c1 => ?_) (fun c1 => ?_)
    · have hf := ite_t c1 hf
      exact w_X12_laysLikely_97 C _ h2 _ h10 hf t0 hw (lvh_sub hl [0, 1, 2, 3, 4, 5] rfl)
    · have hf := ite_f c1 hf
      refine r_iload_n C hl (kx := 3) rfl rfl dX12_laysLikely_51 ?_
      refine r_if_le C (tgt := 97) (by decide) dX12_laysLikely_52 (fun c2 => ?_) (fun c2 => ?_)
      · have hf := ite_t c2 hf
        exact w_X12_laysLikely_97 C _ h2 _ h10 hf t0 hw (lvh_sub hl [0, 1, 2, 3, 4, 5] rfl)
      · have hf := ite_f c2 hf
        refine r_iload C hl (kx := 4) rfl dX12_laysLikely_55 ?_
        refine r_iload_n C hl (kx := 1) rfl rfl dX12_laysLikely_57 ?_
        refine r_icmp_eq C (tgt := 97) (by decide) dX12_laysLikely_58 (fun c3 => ?_) (fun c3 => ?_)
        · have hf := ite_t c3 hf
          exact w_X12_laysLikely_97 C _ h2 _ h10 hf t0 hw (lvh_sub hl [0, 1, 2, 3, 4, 5] rfl)
        · have hf := ite_f c3 hf
          refine r_aload_n C hl (kx := 0) rfl rfl dX12_laysLikely_61 ?_
          refine r_iload C hl (kx := 6) rfl dX12_laysLikely_62 ?_
          refine r_iload C hl (kx := 4) rfl dX12_laysLikely_64 ?_
          refine r_iload_n C hl (kx := 3) rfl rfl dX12_laysLikely_66 ?_
          obtain ⟨r5, μ4, e6, hf⟩ := bn_some hf
          refine r_callVv C hw (K := [(0, x6), (0, x4), (0, x3)]) ok12 t0 (c_X12_likelyBy l D b t0 e6) mi_X12_likelyBy in_X12_likelyBy se_X12_likelyBy kl_12_395 rfl rfl (lvh_sz hl) (by decide) (Kr := []) rfl (Nat.le_of_ble_eq_true rfl) dX12_laysLikely_67 (fun H locs hw => ?_)
          refine r_iload C hl (kx := 5) rfl dX12_laysLikely_70 ?_
          refine r_icmp_le C (tgt := 87) (by decide) dX12_laysLikely_72 (fun c7 => ?_) (fun c7 => ?_)
          · have hf := ite_t c7 hf
            refine r_iload C hl (kx := 5) rfl dX12_laysLikely_87 ?_
            exact w_X12_laysLikely_89 C _ h2 _ h10 _ ih hf t0 hw (lvh_sub hl [0, 1, 2, 3, 4, 6] rfl)
          · have hf := ite_f c7 hf
            refine r_aload_n C hl (kx := 0) rfl rfl dX12_laysLikely_75 ?_
            refine r_iload C hl (kx := 6) rfl dX12_laysLikely_76 ?_
            refine r_iload C hl (kx := 4) rfl dX12_laysLikely_78 ?_
            refine r_iload_n C hl (kx := 3) rfl rfl dX12_laysLikely_80 ?_
            obtain ⟨r9, μ8, e10, hf⟩ := bn_some hf
            refine r_callVv C hw (K := [(0, x6), (0, x4), (0, x3)]) ok12 t0 (c_X12_likelyBy l D b t0 e10) mi_X12_likelyBy in_X12_likelyBy se_X12_likelyBy kl_12_395 rfl rfl (lvh_sz hl) (by decide) (Kr := []) rfl (Nat.le_of_ble_eq_true rfl) dX12_laysLikely_81 (fun H locs hw => ?_)
            refine r_goto C (tgt := 89) (by decide) dX12_laysLikely_84 ?_
            exact w_X12_laysLikely_89 C _ h2 _ h10 _ ih hf t0 hw (lvh_sub hl [0, 1, 2, 3, 4, 6] rfl)
set_option maxHeartbeats 4000000 in
set_option maxRecDepth 20000 in
theorem w_X12_laysLikely_35 (C : Cx p s m args meth c D b cX12_laysLikely 7 RX12 (some .int)) {r : Int} {μ' : Mem} (k2 : Int → Int → Int → Int → Mem → Option (Int × Mem)) (h2 : ∀ (x0 x1 x2 x3 : Int) (μ : Mem) (H : Heap) (locs : List Loc) (ls : Array Slot), k2 x0 x1 x2 x3 μ = some (r, μ') → isK x0 12 → Hw D b μ s.heap H locs → lvh b ls 7 [(0, 2, x0), (1, 0, x1), (2, 0, x2), (3, 0, x3)] → W p l e (rm 5) s m args below meth c H locs 0 0 (QM below args s D b (some (.int (jI r))) μ') (F0 m 2 ls [])) (k10 : Int → Int → Int → Int → Int → Mem → Option (Int × Mem)) (h10 : ∀ (x0 x1 x2 x3 x4 : Int) (μ : Mem) (H : Heap) (locs : List Loc) (ls : Array Slot), k10 x0 x1 x2 x3 x4 μ = some (r, μ') → isK x0 12 → Hw D b μ s.heap H locs → lvh b ls 7 [(0, 2, x0), (1, 0, x1), (2, 0, x2), (3, 0, x3), (4, 0, x4)] → W p l e (rm 5) s m args below meth c H locs 0 0 (QM below args s D b (some (.int (jI r))) μ') (F0 m 10 ls [])) {x0 x1 x2 x3 x4 s0 : Int} {μ : Mem} {H : Heap} {locs : List Loc} {ls : Array Slot} (hf : f_X12_laysLikely_j35 k2 k10 x0 x1 x2 x3 x4 s0 μ = some (r, μ')) (t0 : isK x0 12) (hw : Hw D b μ s.heap H locs) (hl : lvh b ls 7 [(0, 2, x0), (1, 0, x1), (2, 0, x2), (3, 0, x3), (4, 0, x4)]) : W p l e (rm 5) s m args below meth c H locs 0 0 (QM below args s D b (some (.int (jI r))) μ') (F0 m 35 ls [.int (jI s0)]) := by
  unfold f_X12_laysLikely_j35 at hf
  refine r_istore C hl (by decide) (L' := [(5, 0, s0), (0, 2, x0), (1, 0, x1), (2, 0, x2), (3, 0, x3), (4, 0, x4)]) rfl dX12_laysLikely_35 (fun ls hl => ?_)
  refine r_iconst C dX12_laysLikely_37 ?_
  refine r_istore C hl (by decide) (L' := [(6, 0, 0), (5, 0, s0), (0, 2, x0), (1, 0, x1), (2, 0, x2), (3, 0, x3), (4, 0, x4)]) rfl dX12_laysLikely_38 (fun ls hl => ?_)
  exact w_X12_laysLikely_40 C _ h2 _ h10 FU _ _ _ _ _ _ _ _ _ _ _ hf t0 hw (lvh_sub hl [2, 3, 4, 5, 6, 1, 0] rfl)
set_option maxHeartbeats 4000000 in
set_option maxRecDepth 20000 in
theorem w_X12_laysLikely_10 (C : Cx p s m args meth c D b cX12_laysLikely 7 RX12 (some .int)) {r : Int} {μ' : Mem} (k2 : Int → Int → Int → Int → Mem → Option (Int × Mem)) (h2 : ∀ (x0 x1 x2 x3 : Int) (μ : Mem) (H : Heap) (locs : List Loc) (ls : Array Slot), k2 x0 x1 x2 x3 μ = some (r, μ') → isK x0 12 → Hw D b μ s.heap H locs → lvh b ls 7 [(0, 2, x0), (1, 0, x1), (2, 0, x2), (3, 0, x3)] → W p l e (rm 5) s m args below meth c H locs 0 0 (QM below args s D b (some (.int (jI r))) μ') (F0 m 2 ls [])) : ∀ (n : Nat) (x0 x1 x2 x3 x4 : Int) (μ : Mem) (H : Heap) (locs : List Loc) (ls : Array Slot), f_X12_laysLikely_w10 k2 n x0 x1 x2 x3 x4 μ = some (r, μ') → isK x0 12 → Hw D b μ s.heap H locs → lvh b ls 7 [(0, 2, x0), (1, 0, x1), (2, 0, x2), (3, 0, x3), (4, 0, x4)] → W p l e (rm 5) s m args below meth c H locs 0 0 (QM below args s D b (some (.int (jI r))) μ') (F0 m 10 ls []) := by
  intro n
  induction n with
  | zero => intro x0 x1 x2 x3 x4 μ H locs ls hf; cases hf
  | succ n ih =>
    intro x0 x1 x2 x3 x4 μ H locs ls hf t0 hw hl
    rw [f_X12_laysLikely_w10.eq_2] at hf
    refine r_iload C hl (kx := 4) rfl dX12_laysLikely_10 ?_
    refine r_aload_n C hl (kx := 0) rfl rfl dX12_laysLikely_12 ?_
    refine gf_12_13 C hw t0 dX12_laysLikely_13 ?_
    refine r_iconst C dX12_laysLikely_16 ?_
    refine r_iald C hw (n := 3300) (ow_12_1 t0) (j := 1) (by decide) (by decide) (by decide) dX12_laysLikely_17 ?_
    refine r_icmp_ge C (tgt := 117) (by decide) dX12_laysLikely_18 (fun c1 => ?_) (fun c1 => ?_)
    · have hf := ite_t c1 hf
      refine r_iinc C hl (kx := 3) rfl (by decide) (L' := [(3, 0, (x3 + 1)), (0, 2, x0), (1, 0, x1), (2, 0, x2), (4, 0, x4)]) rfl dX12_laysLikely_117 (fun ls hl => ?_)
      refine r_goto C (tgt := 2) (by decide) dX12_laysLikely_120 ?_
      exact h2 _ _ _ _ _ _ _ _ hf t0 hw (lvh_sub hl [1, 2, 3, 0] rfl)
    · have hf := ite_f c1 hf
      refine r_iload C hl (kx := 4) rfl dX12_laysLikely_21 ?_
      refine r_iload_n C hl (kx := 1) rfl rfl dX12_laysLikely_23 ?_
      refine r_icmp_ne C (tgt := 34) (by decide) dX12_laysLikely_24 (fun c2 => ?_) (fun c2 => ?_)
      · have hf := ite_f c2 hf
        refine r_iconst C dX12_laysLikely_34 ?_
        exact w_X12_laysLikely_35 C _ h2 _ ih hf t0 hw (lvh_sub hl [0, 1, 2, 3, 4] rfl)
      · have hf := ite_t c2 hf
        refine r_iload_n C hl (kx := 3) rfl rfl dX12_laysLikely_27 ?_
        obtain ⟨r4, μ3, e5, hf⟩ := bn_some hf
        refine r_callSv C hw (K := [(0, x3)]) (c_X12_wholeOf l D b e5) mi_X12_wholeOf st_X12_wholeOf kl_12_392 rfl rfl (lvh_sz hl) (by decide) (Kr := []) rfl (Nat.le_of_ble_eq_true rfl) dX12_laysLikely_28 (fun H locs hw => ?_)
        refine r_goto C (tgt := 35) (by decide) dX12_laysLikely_31 ?_
        exact w_X12_laysLikely_35 C _ h2 _ ih hf t0 hw (lvh_sub hl [0, 1, 2, 3, 4] rfl)
set_option maxHeartbeats 4000000 in
set_option maxRecDepth 20000 in
theorem w_X12_laysLikely_2 (C : Cx p s m args meth c D b cX12_laysLikely 7 RX12 (some .int)) {r : Int} {μ' : Mem} : ∀ (n : Nat) (x0 x1 x2 x3 : Int) (μ : Mem) (H : Heap) (locs : List Loc) (ls : Array Slot), f_X12_laysLikely_w2 n x0 x1 x2 x3 μ = some (r, μ') → isK x0 12 → Hw D b μ s.heap H locs → lvh b ls 7 [(0, 2, x0), (1, 0, x1), (2, 0, x2), (3, 0, x3)] → W p l e (rm 5) s m args below meth c H locs 0 0 (QM below args s D b (some (.int (jI r))) μ') (F0 m 2 ls []) := by
  intro n
  induction n with
  | zero => intro x0 x1 x2 x3 μ H locs ls hf; cases hf
  | succ n ih =>
    intro x0 x1 x2 x3 μ H locs ls hf t0 hw hl
    rw [f_X12_laysLikely_w2.eq_2] at hf
    refine r_iload_n C hl (kx := 3) rfl rfl dX12_laysLikely_2 ?_
    refine r_iload_n C hl (kx := 2) rfl rfl dX12_laysLikely_3 ?_
    refine r_icmp_gt C (tgt := 123) (by decide) dX12_laysLikely_4 (fun c1 => ?_) (fun c1 => ?_)
    · have hf := ite_t c1 hf
      refine r_aload_n C hl (kx := 0) rfl rfl dX12_laysLikely_123 ?_
      refine gf_12_57 C hw t0 dX12_laysLikely_124 ?_
      refine r_bipush C (by decide) dX12_laysLikely_127 ?_
      refine r_iload_n C hl (kx := 2) rfl rfl dX12_laysLikely_129 ?_
      refine r_imul C dX12_laysLikely_130 ?_
      refine r_aload_n C hl (kx := 0) rfl rfl dX12_laysLikely_131 ?_
      refine gf_12_13 C hw t0 dX12_laysLikely_132 ?_
      refine r_bipush C (by decide) dX12_laysLikely_135 ?_
      refine r_iald C hw (n := 3300) (ow_12_1 t0) (j := 55) (by decide) (by decide) (by decide) dX12_laysLikely_137 ?_
      refine r_iadd C dX12_laysLikely_138 ?_
      obtain ⟨g2, hf⟩ := gd_some hf
      refine r_iald C hw (n := 56) (ow_12_28 t0) (j := (nrm ((7 * x2) + (μ (x0 + 1) 55)))) rfl g2 (by decide) dX12_laysLikely_139 ?_
      exact r_iret C hw hf dX12_laysLikely_140
    · have hf := ite_f c1 hf
      refine r_iconst C dX12_laysLikely_7 ?_
      refine r_istore C hl (by decide) (L' := [(4, 0, 0), (0, 2, x0), (1, 0, x1), (2, 0, x2), (3, 0, x3)]) rfl dX12_laysLikely_8 (fun ls hl => ?_)
      exact w_X12_laysLikely_10 C _ ih FU _ _ _ _ _ _ _ _ _ hf t0 hw (lvh_sub hl [1, 2, 3, 4, 0] rfl)
set_option maxHeartbeats 4000000 in
set_option maxRecDepth 20000 in
theorem w_X12_laysLikely_0 (C : Cx p s m args meth c D b cX12_laysLikely 7 RX12 (some .int)) {r : Int} {μ' : Mem} {x0 x1 x2 : Int} {μ : Mem} {H : Heap} {locs : List Loc} {ls : Array Slot} (hf : f_X12_laysLikely x0 x1 x2 μ = some (r, μ')) (t0 : isK x0 12) (hw : Hw D b μ s.heap H locs) (hl : lvh b ls 7 [(0, 2, x0), (1, 0, x1), (2, 0, x2)]) : W p l e (rm 5) s m args below meth c H locs 0 0 (QM below args s D b (some (.int (jI r))) μ') (F0 m 0 ls []) := by
  unfold f_X12_laysLikely at hf
  refine r_iconst C dX12_laysLikely_0 ?_
  refine r_istore_n C hl (by decide) (L' := [(3, 0, 0), (0, 2, x0), (1, 0, x1), (2, 0, x2)]) rfl rfl dX12_laysLikely_1 (fun ls hl => ?_)
  exact w_X12_laysLikely_2 C FU _ _ _ _ _ _ _ _ hf t0 hw (lvh_sub hl [1, 2, 3, 0] rfl)
theorem c_X12_laysLikely (l : Launch) (D : Ds) (b : Nat) {x0 x1 x2 : Int} {μ μ' : Mem} {r : Int} (t0 : isK x0 12) (hf : f_X12_laysLikely x0 x1 x2 μ = some (r, μ')) : Ctr l D b yX12_laysLikely cX12_laysLikely 7 (some .int) 5 [(2, x0), (0, x1), (0, x2)] μ (some (.int (jI r))) μ' := by
  refine Ctr.of (by decide +kernel) (Nat.le_of_ble_eq_true rfl) ?_
  intro p e s m below meth c C hw ls hl
  exact w_X12_laysLikely_0 C hf t0 hw hl
set_option maxHeartbeats 4000000 in
set_option maxRecDepth 20000 in
theorem w_X12_common_0 (C : Cx p s m args meth c D b cX12_common 2 RX12 (some .int)) {r : Int} {μ' : Mem} (rec : Nat → Int → Int → Mem → Option (Int × Mem)) (h_0 : ∀ (x0 x1 : Int) (μ μ' : Mem) (r : Int), rec 0 x0 x1 μ = some (r, μ') → Ctr l D b yX12_common cX12_common 2 (some .int) (n0 + 1) [(0, x0), (0, x1)] μ (some (.int (jI r))) μ') {x0 x1 : Int} {μ : Mem} {H : Heap} {locs : List Loc} {ls : Array Slot} (hf : b_X12_common rec x0 x1 μ = some (r, μ')) (hw : Hw D b μ s.heap H locs) (hl : lvh b ls 2 [(0, 0, x0), (1, 0, x1)]) : W p l e (rm (n0 + 1 + 1)) s m args below meth c H locs 0 0 (QM below args s D b (some (.int (jI r))) μ') (F0 m 0 ls []) := by
  unfold b_X12_common at hf
  refine r_iload_n C hl (kx := 1) rfl rfl dX12_common_0 ?_
  refine r_if_ne C (tgt := 8) (by decide) dX12_common_1 (fun c1 => ?_) (fun c1 => ?_)
  · have hf := ite_f c1 hf
    refine r_iload_n C hl (kx := 1) rfl rfl dX12_common_8 ?_
    refine r_iload_n C hl (kx := 0) rfl rfl dX12_common_9 ?_
    refine r_iload_n C hl (kx := 1) rfl rfl dX12_common_10 ?_
    obtain ⟨g2, hf⟩ := gd_some hf
    refine r_irem C g2 dX12_common_11 ?_
    obtain ⟨r4, μ3, e5, hf⟩ := bn_some hf
    refine r_callSv C hw (K := [(0, x1), (0, (jrem x0 x1))]) (h_0 _ _ _ _ _ e5) mi_X12_common st_X12_common kl_12_398 rfl rfl (lvh_sz hl) ⟨by simp only [rm]; omega, by simp only [rm]; omega⟩ (Kr := []) rfl (Nat.le_of_ble_eq_true rfl) dX12_common_12 (fun H locs hw => ?_)
    exact r_iret C hw hf dX12_common_15
  · have hf := ite_t c1 hf
    refine r_iload_n C hl (kx := 0) rfl rfl dX12_common_4 ?_
    refine r_goto C (tgt := 15) (by decide) dX12_common_5 ?_
    exact r_iret C hw hf dX12_common_15
set_option maxHeartbeats 4000000 in
theorem cg_X12_common (l : Launch) (D : Ds) (b : Nat) : ∀ n0 : Nat, (∀ (x0 x1 : Int) (μ μ' : Mem) (r : Int), g_X12_common n0 0 x0 x1 μ = some (r, μ') → Ctr l D b yX12_common cX12_common 2 (some .int) (n0 + 1) [(0, x0), (0, x1)] μ (some (.int (jI r))) μ') := by
  intro n0
  induction n0 with
  | zero => exact fun _ _ _ _ _ hf => (by cases hf)
  | succ n0 ih =>
    have h_0 := ih
    · intro x0 x1 μ μ' r hf
      rw [g_X12_common.eq_2] at hf
      have hf := ite_t rfl hf
      refine Ctr.of (by decide +kernel) (Nat.le_of_ble_eq_true rfl) ?_
      intro p e s m below meth c C hw ls hl
      have hq := w_X12_common_0 C (r := r) (μ' := μ') (n0 := n0) (e := e) (below := below) _ h_0 hf hw hl
      exact hq
theorem c_X12_common (l : Launch) (D : Ds) (b : Nat) {x0 x1 : Int} {μ μ' : Mem} {r : Int} (hf : f_X12_common x0 x1 μ = some (r, μ')) : Ctr l D b yX12_common cX12_common 2 (some .int) 65 [(0, x0), (0, x1)] μ (some (.int (jI r))) μ' := (cg_X12_common l D b 64) _ _ _ _ _ hf
set_option maxHeartbeats 4000000 in
set_option maxRecDepth 20000 in
theorem w_X12_chance_62 (C : Cx p s m args meth c D b cX12_chance 5 RX12 (some .int)) {r : Int} {μ' : Mem} {x2 x4 s0 : Int} {μ : Mem} {H : Heap} {locs : List Loc} {ls : Array Slot} (hf : f_X12_chance_j62 x2 x4 s0 μ = some (r, μ')) (hw : Hw D b μ s.heap H locs) (hl : lvh b ls 5 [(2, 0, x2), (4, 0, x4)]) : W p l e (rm 66) s m args below meth c H locs 0 0 (QM below args s D b (some (.int (jI r))) μ') (F0 m 62 ls [.int (jI s0)]) := by
  unfold f_X12_chance_j62 at hf
  refine r_iload C hl (kx := 1) rfl dX12_chance_62 ?_
  refine r_iload_n C hl (kx := 0) rfl rfl dX12_chance_64 ?_
  obtain ⟨r2, μ1, e3, hf⟩ := bn_some hf
  refine r_callSv C hw (K := [(0, x2)]) (c_X12_wholeOf l D b e3) mi_X12_wholeOf st_X12_wholeOf kl_12_392 rfl rfl (lvh_sz hl) (by decide) (Kr := [(0, x4), (0, s0)]) rfl (Nat.le_of_ble_eq_true rfl) dX12_chance_65 (fun H locs hw => ?_)
  obtain ⟨r5, μ4, e6, hf⟩ := bn_some hf
  refine r_callSv C hw (K := [(0, x4), (0, r2)]) (c_X12_common l D b e6) mi_X12_common st_X12_common kl_12_398 rfl rfl (lvh_sz hl) (by decide) (Kr := [(0, s0)]) rfl (Nat.le_of_ble_eq_true rfl) dX12_chance_68 (fun H locs hw => ?_)
  obtain ⟨g7, hf⟩ := gd_some hf
  refine r_idiv C g7 dX12_chance_71 ?_
  exact r_iret C hw hf dX12_chance_72
set_option maxHeartbeats 4000000 in
set_option maxRecDepth 20000 in
theorem w_X12_chance_0 (C : Cx p s m args meth c D b cX12_chance 5 RX12 (some .int)) {r : Int} {μ' : Mem} {x0 x1 x2 x3 : Int} {μ : Mem} {H : Heap} {locs : List Loc} {ls : Array Slot} (hf : f_X12_chance x0 x1 x2 x3 μ = some (r, μ')) (t0 : isK x0 12) (hw : Hw D b μ s.heap H locs) (hl : lvh b ls 5 [(0, 2, x0), (1, 0, x1), (2, 0, x2), (3, 0, x3)]) : W p l e (rm 66) s m args below meth c H locs 0 0 (QM below args s D b (some (.int (jI r))) μ') (F0 m 0 ls []) := by
  unfold f_X12_chance at hf
  refine r_aload_n C hl (kx := 0) rfl rfl dX12_chance_0 ?_
  refine r_iconst C dX12_chance_1 ?_
  obtain ⟨μ1, e2, hf⟩ := nm_some hf
  refine pf_12_1 C hw t0 dX12_chance_2 (fun H locs hw => ?_)
  rw [← e2] at hw
  refine r_aload_n C hl (kx := 0) rfl rfl dX12_chance_5 ?_
  refine r_iload_n C hl (kx := 1) rfl rfl dX12_chance_6 ?_
  obtain ⟨r4, μ3, e5, hf⟩ := bn_some hf
  refine r_callVv C hw (K := [(0, x1)]) ok12 t0 (c_X12_isPlace l D b t0 e5) mi_X12_isPlace in_X12_isPlace se_X12_isPlace kl_12_335 rfl rfl (lvh_sz hl) (by decide) (Kr := []) rfl (Nat.le_of_ble_eq_true rfl) dX12_chance_7 (fun H locs hw => ?_)
  refine r_if_eq C (tgt := 23) (by decide) dX12_chance_10 (fun c6 => ?_) (fun c6 => ?_)
  · have hf := ite_t c6 hf
    refine r_bipush C (by decide) dX12_chance_23 ?_
    exact r_iret C hw hf dX12_chance_25
  · have hf := ite_f c6 hf
    refine r_iload_n C hl (kx := 3) rfl rfl dX12_chance_13 ?_
    refine r_i2l C dX12_chance_14 ?_
    refine r_lconst C (z := 0) (by decide) dX12_chance_15 ?_
    refine r_lconst C (z := 1) (by decide) dX12_chance_16 ?_
    obtain ⟨r8, μ7, e9, hf⟩ := bn_some hf
    refine r_callSv C hw (K := [(1, (nrm x3)), (1, 0), (1, 1)]) (c_X12_within l D b e9) mi_X12_within st_X12_within kl_12_136 rfl rfl (lvh_sz hl) (by decide) (Kr := []) rfl (Nat.le_of_ble_eq_true rfl) dX12_chance_17 (fun H locs hw => ?_)
    refine r_if_ne C (tgt := 26) (by decide) dX12_chance_20 (fun c10 => ?_) (fun c10 => ?_)
    · have hf := ite_f c10 hf
      refine r_iload_n C hl (kx := 2) rfl rfl dX12_chance_26 ?_
      refine r_i2l C dX12_chance_27 ?_
      refine r_lconst C (z := 0) (by decide) dX12_chance_28 ?_
      refine r_ldc2 C (z := 7) (by decide) kw1894 dX12_chance_29 ?_
      obtain ⟨r12, μ11, e13, hf⟩ := bn_some hf
      refine r_callSv C hw (K := [(1, (nrm x2)), (1, 0), (1, 7)]) (c_X12_within l D b e13) mi_X12_within st_X12_within kl_12_136 rfl rfl (lvh_sz hl) (by decide) (Kr := []) rfl (Nat.le_of_ble_eq_true rfl) dX12_chance_32 (fun H locs hw => ?_)
      refine r_if_ne C (tgt := 41) (by decide) dX12_chance_35 (fun c14 => ?_) (fun c14 => ?_)
      · have hf := ite_f c14 hf
        refine r_aload_n C hl (kx := 0) rfl rfl dX12_chance_41 ?_
        refine r_iload_n C hl (kx := 1) rfl rfl dX12_chance_42 ?_
        refine r_iload_n C hl (kx := 2) rfl rfl dX12_chance_43 ?_
        obtain ⟨r16, μ15, e17, hf⟩ := bn_some hf
        refine r_callVv C hw (K := [(0, x1), (0, x2)]) ok12 t0 (c_X12_laysLikely l D b t0 e17) mi_X12_laysLikely in_X12_laysLikely se_X12_laysLikely kl_12_403 rfl rfl (lvh_sz hl) (by decide) (Kr := []) rfl (Nat.le_of_ble_eq_true rfl) dX12_chance_44 (fun H locs hw => ?_)
        refine r_istore C hl (by decide) (L' := [(4, 0, r16), (0, 2, x0), (1, 0, x1), (2, 0, x2), (3, 0, x3)]) rfl dX12_chance_47 (fun ls hl => ?_)
        refine r_iload_n C hl (kx := 4) rfl rfl dX12_chance_49 ?_
        refine r_if_ne C (tgt := 58) (by decide) dX12_chance_50 (fun c18 => ?_) (fun c18 => ?_)
        · have hf := ite_f c18 hf
          refine r_iload_n C hl (kx := 3) rfl rfl dX12_chance_58 ?_
          obtain ⟨r20, μ19, e21, hf⟩ := bn_some hf
          refine r_callSv C hw (K := [(0, x2)]) (c_X12_wholeOf l D b e21) mi_X12_wholeOf st_X12_wholeOf kl_12_392 rfl rfl (lvh_sz hl) (by decide) (Kr := []) rfl (Nat.le_of_ble_eq_true rfl) dX12_chance_59 (fun H locs hw => ?_)
          exact w_X12_chance_62 C hf hw (lvh_sub hl [3, 0] rfl)
        · have hf := ite_t c18 hf
          refine r_iload C hl (kx := 0) rfl dX12_chance_53 ?_
          refine r_goto C (tgt := 62) (by decide) dX12_chance_55 ?_
          exact w_X12_chance_62 C hf hw (lvh_sub hl [3, 0] rfl)
      · have hf := ite_t c14 hf
        refine r_bipush C (by decide) dX12_chance_38 ?_
        exact r_iret C hw hf dX12_chance_40
    · have hf := ite_t c10 hf
      refine r_bipush C (by decide) dX12_chance_23 ?_
      exact r_iret C hw hf dX12_chance_25
theorem c_X12_chance (l : Launch) (D : Ds) (b : Nat) {x0 x1 x2 x3 : Int} {μ μ' : Mem} {r : Int} (t0 : isK x0 12) (hf : f_X12_chance x0 x1 x2 x3 μ = some (r, μ')) : Ctr l D b yX12_chance cX12_chance 5 (some .int) 66 [(2, x0), (0, x1), (0, x2), (0, x3)] μ (some (.int (jI r))) μ' := by
  refine Ctr.of (by decide +kernel) (Nat.le_of_ble_eq_true rfl) ?_
  intro p e s m below meth c C hw ls hl
  exact w_X12_chance_0 C hf t0 hw hl
set_option maxHeartbeats 4000000 in
set_option maxRecDepth 20000 in
theorem w_X12_bestBy_58 (C : Cx p s m args meth c D b cX12_bestBy 5 RX12 (some .int)) {r : Int} {μ' : Mem} : ∀ (n : Nat) (x0 x2 x3 x4 : Int) (μ : Mem) (H : Heap) (locs : List Loc) (ls : Array Slot), f_X12_bestBy_w58 n x0 x2 x3 x4 μ = some (r, μ') → isK x0 12 → Hw D b μ s.heap H locs → lvh b ls 5 [(0, 2, x0), (2, 0, x2), (3, 0, x3), (4, 0, x4)] → W p l e (rm 6) s m args below meth c H locs 0 0 (QM below args s D b (some (.int (jI r))) μ') (F0 m 58 ls []) := by
  intro n
  induction n with
  | zero => intro x0 x2 x3 x4 μ H locs ls hf; cases hf
  | succ n ih =>
    intro x0 x2 x3 x4 μ H locs ls hf t0 hw hl
    rw [f_X12_bestBy_w58.eq_2] at hf
    refine r_aload_n C hl (kx := 0) rfl rfl dX12_bestBy_58 ?_
    refine r_iload C hl (kx := 3) rfl dX12_bestBy_59 ?_
    refine r_aload_n C hl (kx := 0) rfl rfl dX12_bestBy_61 ?_
    refine gf_12_13 C hw t0 dX12_bestBy_62 ?_
    refine r_bipush C (by decide) dX12_bestBy_65 ?_
    refine r_iald C hw (n := 3300) (ow_12_1 t0) (j := 55) (by decide) (by decide) (by decide) dX12_bestBy_67 ?_
    refine r_iload_n C hl (kx := 1) rfl rfl dX12_bestBy_68 ?_
    obtain ⟨r2, μ1, e3, hf⟩ := bn_some hf
    refine r_callVv C hw (K := [(0, x4), (0, (μ (x0 + 1) 55)), (0, x2)]) ok12 t0 (c_X12_likelyBy l D b t0 e3) mi_X12_likelyBy in_X12_likelyBy se_X12_likelyBy kl_12_395 rfl rfl (lvh_sz hl) (by decide) (Kr := []) rfl (Nat.le_of_ble_eq_true rfl) dX12_bestBy_69 (fun H locs hw => ?_)
    refine r_iload_n C hl (kx := 2) rfl rfl dX12_bestBy_72 ?_
    refine r_icmp_eq C (tgt := 82) (by decide) dX12_bestBy_73 (fun c4 => ?_) (fun c4 => ?_)
    · have hf := ite_t c4 hf
      refine r_iload C hl (kx := 3) rfl dX12_bestBy_82 ?_
      exact r_iret C hw hf dX12_bestBy_84
    · have hf := ite_f c4 hf
      refine r_iinc C hl (kx := 3) rfl (by decide) (L' := [(4, 0, (x4 + 1)), (0, 2, x0), (2, 0, x2), (3, 0, x3)]) rfl dX12_bestBy_76 (fun ls hl => ?_)
      refine r_goto C (tgt := 58) (by decide) dX12_bestBy_79 ?_
      exact ih _ _ _ _ _ _ _ _ hf t0 hw (lvh_sub hl [1, 2, 3, 0] rfl)
set_option maxHeartbeats 4000000 in
set_option maxRecDepth 20000 in
theorem w_X12_bestBy_0 (C : Cx p s m args meth c D b cX12_bestBy 5 RX12 (some .int)) {r : Int} {μ' : Mem} {x0 x1 x2 : Int} {μ : Mem} {H : Heap} {locs : List Loc} {ls : Array Slot} (hf : f_X12_bestBy x0 x1 x2 μ = some (r, μ')) (t0 : isK x0 12) (hw : Hw D b μ s.heap H locs) (hl : lvh b ls 5 [(0, 2, x0), (1, 0, x1), (2, 0, x2)]) : W p l e (rm 6) s m args below meth c H locs 0 0 (QM below args s D b (some (.int (jI r))) μ') (F0 m 0 ls []) := by
  unfold f_X12_bestBy at hf
  refine r_aload_n C hl (kx := 0) rfl rfl dX12_bestBy_0 ?_
  refine r_iconst C dX12_bestBy_1 ?_
  obtain ⟨μ1, e2, hf⟩ := nm_some hf
  refine pf_12_1 C hw t0 dX12_bestBy_2 (fun H locs hw => ?_)
  rw [← e2] at hw
  refine r_aload_n C hl (kx := 0) rfl rfl dX12_bestBy_5 ?_
  refine r_iload_n C hl (kx := 1) rfl rfl dX12_bestBy_6 ?_
  obtain ⟨r4, μ3, e5, hf⟩ := bn_some hf
  refine r_callVv C hw (K := [(0, x1)]) ok12 t0 (c_X12_isPlace l D b t0 e5) mi_X12_isPlace in_X12_isPlace se_X12_isPlace kl_12_335 rfl rfl (lvh_sz hl) (by decide) (Kr := []) rfl (Nat.le_of_ble_eq_true rfl) dX12_bestBy_7 (fun H locs hw => ?_)
  refine r_if_ne C (tgt := 16) (by decide) dX12_bestBy_10 (fun c6 => ?_) (fun c6 => ?_)
  · have hf := ite_f c6 hf
    refine r_iload_n C hl (kx := 2) rfl rfl dX12_bestBy_16 ?_
    refine r_i2l C dX12_bestBy_17 ?_
    refine r_lconst C (z := 0) (by decide) dX12_bestBy_18 ?_
    refine r_ldc2 C (z := 7) (by decide) kw1894 dX12_bestBy_19 ?_
    obtain ⟨r8, μ7, e9, hf⟩ := bn_some hf
    refine r_callSv C hw (K := [(1, (nrm x2)), (1, 0), (1, 7)]) (c_X12_within l D b e9) mi_X12_within st_X12_within kl_12_136 rfl rfl (lvh_sz hl) (by decide) (Kr := []) rfl (Nat.le_of_ble_eq_true rfl) dX12_bestBy_22 (fun H locs hw => ?_)
    refine r_if_ne C (tgt := 31) (by decide) dX12_bestBy_25 (fun c10 => ?_) (fun c10 => ?_)
    · have hf := ite_f c10 hf
      refine r_aload_n C hl (kx := 0) rfl rfl dX12_bestBy_31 ?_
      refine r_iload_n C hl (kx := 1) rfl rfl dX12_bestBy_32 ?_
      refine r_iload_n C hl (kx := 2) rfl rfl dX12_bestBy_33 ?_
      obtain ⟨r12, μ11, e13, hf⟩ := bn_some hf
      refine r_callVv C hw (K := [(0, x1), (0, x2)]) ok12 t0 (c_X12_laysLikely l D b t0 e13) mi_X12_laysLikely in_X12_laysLikely se_X12_laysLikely kl_12_403 rfl rfl (lvh_sz hl) (by decide) (Kr := []) rfl (Nat.le_of_ble_eq_true rfl) dX12_bestBy_34 (fun H locs hw => ?_)
      refine r_istore_n C hl (by decide) (L' := [(3, 0, r12), (0, 2, x0), (1, 0, x1), (2, 0, x2)]) rfl rfl dX12_bestBy_37 (fun ls hl => ?_)
      refine r_iload_n C hl (kx := 0) rfl rfl dX12_bestBy_38 ?_
      refine r_if_eq C (tgt := 53) (by decide) dX12_bestBy_39 (fun c14 => ?_) (fun c14 => ?_)
      · have hf := ite_t c14 hf
        refine r_iconst C dX12_bestBy_53 ?_
        exact r_iret C hw hf dX12_bestBy_54
      · have hf := ite_f c14 hf
        refine r_iload_n C hl (kx := 2) rfl rfl dX12_bestBy_42 ?_
        refine r_aload_n C hl (kx := 1) rfl rfl dX12_bestBy_43 ?_
        refine gf_12_13 C hw t0 dX12_bestBy_44 ?_
        refine r_bipush C (by decide) dX12_bestBy_47 ?_
        refine r_iald C hw (n := 3300) (ow_12_1 t0) (j := 55) (by decide) (by decide) (by decide) dX12_bestBy_49 ?_
        refine r_icmp_ne C (tgt := 55) (by decide) dX12_bestBy_50 (fun c15 => ?_) (fun c15 => ?_)
        · have hf := ite_f c15 hf
          refine r_iconst C dX12_bestBy_55 ?_
          refine r_istore C hl (by decide) (L' := [(4, 0, 0), (3, 0, r12), (0, 2, x0), (1, 0, x1), (2, 0, x2)]) rfl dX12_bestBy_56 (fun ls hl => ?_)
          exact w_X12_bestBy_58 C FU _ _ _ _ _ _ _ _ hf t0 hw (lvh_sub hl [2, 4, 1, 0] rfl)
        · have hf := ite_t c15 hf
          refine r_iconst C dX12_bestBy_53 ?_
          exact r_iret C hw hf dX12_bestBy_54
    · have hf := ite_t c10 hf
      refine r_bipush C (by decide) dX12_bestBy_28 ?_
      exact r_iret C hw hf dX12_bestBy_30
  · have hf := ite_t c6 hf
    refine r_bipush C (by decide) dX12_bestBy_13 ?_
    exact r_iret C hw hf dX12_bestBy_15
theorem c_X12_bestBy (l : Launch) (D : Ds) (b : Nat) {x0 x1 x2 : Int} {μ μ' : Mem} {r : Int} (t0 : isK x0 12) (hf : f_X12_bestBy x0 x1 x2 μ = some (r, μ')) : Ctr l D b yX12_bestBy cX12_bestBy 5 (some .int) 6 [(2, x0), (0, x1), (0, x2)] μ (some (.int (jI r))) μ' := by
  refine Ctr.of (by decide +kernel) (Nat.le_of_ble_eq_true rfl) ?_
  intro p e s m below meth c C hw ls hl
  exact w_X12_bestBy_0 C hf t0 hw hl
set_option maxHeartbeats 4000000 in
set_option maxRecDepth 20000 in
theorem w_X12_cut_0 (C : Cx p s m args meth c D b cX12_cut 3 RX12 (some .long)) {r : Int} {μ' : Mem} {x0 x2 : Int} {μ : Mem} {H : Heap} {locs : List Loc} {ls : Array Slot} (hf : f_X12_cut x0 x2 μ = some (r, μ')) (hw : Hw D b μ s.heap H locs) (hl : lvh b ls 3 [(0, 1, x0), (2, 0, x2)]) : W p l e (rm 0) s m args below meth c H locs 0 0 (QM below args s D b (some (.long (jL r))) μ') (F0 m 0 ls []) := by
  unfold f_X12_cut at hf
  refine r_iload_n C hl (kx := 1) rfl rfl dX12_cut_0 ?_
  refine r_if_ne C (tgt := 11) (by decide) dX12_cut_1 (fun c1 => ?_) (fun c1 => ?_)
  · have hf := ite_f c1 hf
    refine r_iload_n C hl (kx := 1) rfl rfl dX12_cut_11 ?_
    refine r_iconst C dX12_cut_12 ?_
    refine r_icmp_ne C (tgt := 23) (by decide) dX12_cut_13 (fun c2 => ?_) (fun c2 => ?_)
    · have hf := ite_f c2 hf
      refine r_iload_n C hl (kx := 1) rfl rfl dX12_cut_23 ?_
      refine r_iconst C dX12_cut_24 ?_
      refine r_icmp_ne C (tgt := 34) (by decide) dX12_cut_25 (fun c3 => ?_) (fun c3 => ?_)
      · have hf := ite_f c3 hf
        refine r_lload_n C hl (kx := 0) rfl rfl dX12_cut_34 ?_
        exact r_lret C hw hf dX12_cut_35
      · have hf := ite_t c3 hf
        refine r_lload_n C hl (kx := 0) rfl rfl dX12_cut_28 ?_
        refine r_l2i C dX12_cut_29 ?_
        refine r_i2l C dX12_cut_30 ?_
        refine r_goto C (tgt := 35) (by decide) dX12_cut_31 ?_
        exact r_lret C hw hf dX12_cut_35
    · have hf := ite_t c2 hf
      refine r_lload_n C hl (kx := 0) rfl rfl dX12_cut_16 ?_
      refine r_l2i C dX12_cut_17 ?_
      refine r_i2s C dX12_cut_18 ?_
      refine r_i2l C dX12_cut_19 ?_
      refine r_goto C (tgt := 35) (by decide) dX12_cut_20 ?_
      exact r_lret C hw hf dX12_cut_35
  · have hf := ite_t c1 hf
    refine r_lload_n C hl (kx := 0) rfl rfl dX12_cut_4 ?_
    refine r_l2i C dX12_cut_5 ?_
    refine r_i2b C dX12_cut_6 ?_
    refine r_i2l C dX12_cut_7 ?_
    refine r_goto C (tgt := 35) (by decide) dX12_cut_8 ?_
    exact r_lret C hw hf dX12_cut_35
theorem c_X12_cut (l : Launch) (D : Ds) (b : Nat) {x0 x2 : Int} {μ μ' : Mem} {r : Int} (hf : f_X12_cut x0 x2 μ = some (r, μ')) : Ctr l D b yX12_cut cX12_cut 3 (some .long) 0 [(1, x0), (0, x2)] μ (some (.long (jL r))) μ' := by
  refine Ctr.of (by decide +kernel) (Nat.le_of_ble_eq_true rfl) ?_
  intro p e s m below meth c C hw ls hl
  exact w_X12_cut_0 C hf hw hl
set_option maxHeartbeats 4000000 in
set_option maxRecDepth 20000 in
theorem w_X12_numbers_64 (C : Cx p s m args meth c D b cX12_numbers 5 RX12 (some .int)) {r : Int} {μ' : Mem} : ∀ (n : Nat) (x0 x1 x3 x4 : Int) (μ : Mem) (H : Heap) (locs : List Loc) (ls : Array Slot), f_X12_numbers_w64 n x0 x1 x3 x4 μ = some (r, μ') → isK x0 12 → Hw D b μ s.heap H locs → lvh b ls 5 [(0, 2, x0), (1, 0, x1), (3, 0, x3), (4, 0, x4)] → W p l e (rm 1) s m args below meth c H locs 0 0 (QM below args s D b (some (.int (jI r))) μ') (F0 m 64 ls []) := by
  intro n
  induction n with
  | zero => intro x0 x1 x3 x4 μ H locs ls hf; cases hf
  | succ n ih =>
    intro x0 x1 x3 x4 μ H locs ls hf t0 hw hl
    rw [f_X12_numbers_w64.eq_2] at hf
    refine r_iload C hl (kx := 3) rfl dX12_numbers_64 ?_
    refine r_iload_n C hl (kx := 2) rfl rfl dX12_numbers_66 ?_
    refine r_icmp_ge C (tgt := 89) (by decide) dX12_numbers_67 (fun c1 => ?_) (fun c1 => ?_)
    · have hf := ite_t c1 hf
      refine r_iconst C dX12_numbers_89 ?_
      exact r_iret C hw hf dX12_numbers_90
    · have hf := ite_f c1 hf
      refine r_aload_n C hl (kx := 0) rfl rfl dX12_numbers_70 ?_
      refine gf_12_66 C hw t0 dX12_numbers_71 ?_
      refine r_bipush C (by decide) dX12_numbers_74 ?_
      refine r_iload_n C hl (kx := 1) rfl rfl dX12_numbers_76 ?_
      refine r_imul C dX12_numbers_77 ?_
      refine r_iload C hl (kx := 3) rfl dX12_numbers_78 ?_
      refine r_iadd C dX12_numbers_80 ?_
      refine r_lconst C (z := 0) (by decide) dX12_numbers_81 ?_
      obtain ⟨g4, hf⟩ := gd_some hf
      obtain ⟨μ2, e3, hf⟩ := nm_some hf
      refine r_last C hw (n := 160) (ow_12_31 t0) (j := (nrm ((40 * x1) + x4))) rfl g4 (by decide) dX12_numbers_82 (fun H locs hw => ?_)
      rw [← e3] at hw
      refine r_iinc C hl (kx := 3) rfl (by decide) (L' := [(4, 0, (x4 + 1)), (0, 2, x0), (1, 0, x1), (3, 0, x3)]) rfl dX12_numbers_83 (fun ls hl => ?_)
      refine r_goto C (tgt := 64) (by decide) dX12_numbers_86 ?_
      exact ih _ _ _ _ _ _ _ _ hf t0 hw (lvh_sub hl [1, 2, 3, 0] rfl)
set_option maxHeartbeats 4000000 in
set_option maxRecDepth 20000 in
theorem w_X12_numbers_0 (C : Cx p s m args meth c D b cX12_numbers 5 RX12 (some .int)) {r : Int} {μ' : Mem} {x0 x1 x2 x3 : Int} {μ : Mem} {H : Heap} {locs : List Loc} {ls : Array Slot} (hf : f_X12_numbers x0 x1 x2 x3 μ = some (r, μ')) (t0 : isK x0 12) (hw : Hw D b μ s.heap H locs) (hl : lvh b ls 5 [(0, 2, x0), (1, 0, x1), (2, 0, x2), (3, 0, x3)]) : W p l e (rm 1) s m args below meth c H locs 0 0 (QM below args s D b (some (.int (jI r))) μ') (F0 m 0 ls []) := by
  unfold f_X12_numbers at hf
  refine r_aload_n C hl (kx := 0) rfl rfl dX12_numbers_0 ?_
  refine r_iconst C dX12_numbers_1 ?_
  obtain ⟨μ1, e2, hf⟩ := nm_some hf
  refine pf_12_1 C hw t0 dX12_numbers_2 (fun H locs hw => ?_)
  rw [← e2] at hw
  refine r_iload_n C hl (kx := 1) rfl rfl dX12_numbers_5 ?_
  refine r_i2l C dX12_numbers_6 ?_
  refine r_lconst C (z := 0) (by decide) dX12_numbers_7 ?_
  refine r_ldc2 C (z := 3) (by decide) kw1696 dX12_numbers_8 ?_
  obtain ⟨r4, μ3, e5, hf⟩ := bn_some hf
  refine r_callSv C hw (K := [(1, (nrm x1)), (1, 0), (1, 3)]) (c_X12_within l D b e5) mi_X12_within st_X12_within kl_12_136 rfl rfl (lvh_sz hl) (by decide) (Kr := []) rfl (Nat.le_of_ble_eq_true rfl) dX12_numbers_11 (fun H locs hw => ?_)
  refine r_if_eq C (tgt := 29) (by decide) dX12_numbers_14 (fun c6 => ?_) (fun c6 => ?_)
  · have hf := ite_t c6 hf
    refine r_bipush C (by decide) dX12_numbers_29 ?_
    exact r_iret C hw hf dX12_numbers_31
  · have hf := ite_f c6 hf
    refine r_iload_n C hl (kx := 2) rfl rfl dX12_numbers_17 ?_
    refine r_i2l C dX12_numbers_18 ?_
    refine r_lconst C (z := 0) (by decide) dX12_numbers_19 ?_
    refine r_ldc2 C (z := 3) (by decide) kw1696 dX12_numbers_20 ?_
    obtain ⟨r8, μ7, e9, hf⟩ := bn_some hf
    refine r_callSv C hw (K := [(1, (nrm x2)), (1, 0), (1, 3)]) (c_X12_within l D b e9) mi_X12_within st_X12_within kl_12_136 rfl rfl (lvh_sz hl) (by decide) (Kr := []) rfl (Nat.le_of_ble_eq_true rfl) dX12_numbers_23 (fun H locs hw => ?_)
    refine r_if_ne C (tgt := 32) (by decide) dX12_numbers_26 (fun c10 => ?_) (fun c10 => ?_)
    · have hf := ite_f c10 hf
      refine r_iload_n C hl (kx := 3) rfl rfl dX12_numbers_32 ?_
      refine r_i2l C dX12_numbers_33 ?_
      refine r_lconst C (z := 0) (by decide) dX12_numbers_34 ?_
      refine r_ldc2 C (z := 40) (by decide) kw1711 dX12_numbers_35 ?_
      obtain ⟨r12, μ11, e13, hf⟩ := bn_some hf
      refine r_callSv C hw (K := [(1, (nrm x3)), (1, 0), (1, 40)]) (c_X12_within l D b e13) mi_X12_within st_X12_within kl_12_136 rfl rfl (lvh_sz hl) (by decide) (Kr := []) rfl (Nat.le_of_ble_eq_true rfl) dX12_numbers_38 (fun H locs hw => ?_)
      refine r_if_ne C (tgt := 47) (by decide) dX12_numbers_41 (fun c14 => ?_) (fun c14 => ?_)
      · have hf := ite_f c14 hf
        refine r_aload_n C hl (kx := 0) rfl rfl dX12_numbers_47 ?_
        refine gf_12_60 C hw t0 dX12_numbers_48 ?_
        refine r_iload_n C hl (kx := 1) rfl rfl dX12_numbers_51 ?_
        refine r_iload_n C hl (kx := 2) rfl rfl dX12_numbers_52 ?_
        obtain ⟨g17, hf⟩ := gd_some hf
        obtain ⟨μ15, e16, hf⟩ := nm_some hf
        refine r_iast C hw (n := 4) (ow_12_29 t0) (j := (nrm x1)) rfl g17 (by decide) dX12_numbers_53 (fun H locs hw => ?_)
        rw [← e16] at hw
        refine r_aload_n C hl (kx := 0) rfl rfl dX12_numbers_54 ?_
        refine gf_12_63 C hw t0 dX12_numbers_55 ?_
        refine r_iload_n C hl (kx := 1) rfl rfl dX12_numbers_58 ?_
        refine r_iload_n C hl (kx := 3) rfl rfl dX12_numbers_59 ?_
        obtain ⟨g20, hf⟩ := gd_some hf
        obtain ⟨μ18, e19, hf⟩ := nm_some hf
        refine r_iast C hw (n := 4) (ow_12_30 t0) (j := (nrm x1)) rfl g20 (by decide) dX12_numbers_60 (fun H locs hw => ?_)
        rw [← e19] at hw
        refine r_iconst C dX12_numbers_61 ?_
        refine r_istore C hl (by decide) (L' := [(4, 0, 0), (0, 2, x0), (1, 0, x1), (2, 0, x2), (3, 0, x3)]) rfl dX12_numbers_62 (fun ls hl => ?_)
        exact w_X12_numbers_64 C FU _ _ _ _ _ _ _ _ hf t0 hw (lvh_sub hl [1, 2, 4, 0] rfl)
      · have hf := ite_t c14 hf
        refine r_bipush C (by decide) dX12_numbers_44 ?_
        exact r_iret C hw hf dX12_numbers_46
    · have hf := ite_t c10 hf
      refine r_bipush C (by decide) dX12_numbers_29 ?_
      exact r_iret C hw hf dX12_numbers_31
theorem c_X12_numbers (l : Launch) (D : Ds) (b : Nat) {x0 x1 x2 x3 : Int} {μ μ' : Mem} {r : Int} (t0 : isK x0 12) (hf : f_X12_numbers x0 x1 x2 x3 μ = some (r, μ')) : Ctr l D b yX12_numbers cX12_numbers 5 (some .int) 1 [(2, x0), (0, x1), (0, x2), (0, x3)] μ (some (.int (jI r))) μ' := by
  refine Ctr.of (by decide +kernel) (Nat.le_of_ble_eq_true rfl) ?_
  intro p e s m below meth c C hw ls hl
  exact w_X12_numbers_0 C hf t0 hw hl
set_option maxHeartbeats 4000000 in
set_option maxRecDepth 20000 in
theorem w_X12_write_0 (C : Cx p s m args meth c D b cX12_write 6 RX12 (some .long)) {r : Int} {μ' : Mem} {x0 x1 x2 x3 : Int} {μ : Mem} {H : Heap} {locs : List Loc} {ls : Array Slot} (hf : f_X12_write x0 x1 x2 x3 μ = some (r, μ')) (t0 : isK x0 12) (hw : Hw D b μ s.heap H locs) (hl : lvh b ls 6 [(0, 2, x0), (1, 0, x1), (2, 0, x2), (3, 1, x3)]) : W p l e (rm 2) s m args below meth c H locs 0 0 (QM below args s D b (some (.long (jL r))) μ') (F0 m 0 ls []) := by
  unfold f_X12_write at hf
  refine r_aload_n C hl (kx := 0) rfl rfl dX12_write_0 ?_
  refine r_iconst C dX12_write_1 ?_
  obtain ⟨μ1, e2, hf⟩ := nm_some hf
  refine pf_12_1 C hw t0 dX12_write_2 (fun H locs hw => ?_)
  rw [← e2] at hw
  refine r_aload_n C hl (kx := 0) rfl rfl dX12_write_5 ?_
  refine r_iload_n C hl (kx := 1) rfl rfl dX12_write_6 ?_
  obtain ⟨r4, μ3, e5, hf⟩ := bn_some hf
  refine r_callVv C hw (K := [(0, x1)]) ok12 t0 (c_X12_noTray l D b t0 e5) mi_X12_noTray in_X12_noTray se_X12_noTray kl_12_299 rfl rfl (lvh_sz hl) (by decide) (Kr := []) rfl (Nat.le_of_ble_eq_true rfl) dX12_write_7 (fun H locs hw => ?_)
  refine r_istore C hl (by decide) (L' := [(5, 0, r4), (0, 2, x0), (1, 0, x1), (2, 0, x2), (3, 1, x3)]) rfl dX12_write_10 (fun ls hl => ?_)
  refine r_iload C hl (kx := 0) rfl dX12_write_12 ?_
  refine r_if_eq C (tgt := 21) (by decide) dX12_write_14 (fun c6 => ?_) (fun c6 => ?_)
  · have hf := ite_t c6 hf
    refine r_iload_n C hl (kx := 3) rfl rfl dX12_write_21 ?_
    refine r_i2l C dX12_write_22 ?_
    refine r_lconst C (z := 0) (by decide) dX12_write_23 ?_
    refine r_aload_n C hl (kx := 1) rfl rfl dX12_write_24 ?_
    refine gf_12_63 C hw t0 dX12_write_25 ?_
    refine r_iload_n C hl (kx := 2) rfl rfl dX12_write_28 ?_
    obtain ⟨g7, hf⟩ := gd_some hf
    refine r_iald C hw (n := 4) (ow_12_30 t0) (j := (nrm x1)) rfl g7 (by decide) dX12_write_29 ?_
    refine r_iconst C dX12_write_30 ?_
    refine r_isub C dX12_write_31 ?_
    refine r_i2l C dX12_write_32 ?_
    obtain ⟨r9, μ8, e10, hf⟩ := bn_some hf
    refine r_callSv C hw (K := [(1, (nrm x2)), (1, 0), (1, (nrm ((μ3 (x0 + 16) (nrm x1)) - 1)))]) (c_X12_within l D b e10) mi_X12_within st_X12_within kl_12_136 rfl rfl (lvh_sz hl) (by decide) (Kr := []) rfl (Nat.le_of_ble_eq_true rfl) dX12_write_33 (fun H locs hw => ?_)
    refine r_if_ne C (tgt := 43) (by decide) dX12_write_36 (fun c11 => ?_) (fun c11 => ?_)
    · have hf := ite_f c11 hf
      refine r_aload_n C hl (kx := 1) rfl rfl dX12_write_43 ?_
      refine gf_12_66 C hw t0 dX12_write_44 ?_
      refine r_bipush C (by decide) dX12_write_47 ?_
      refine r_iload_n C hl (kx := 2) rfl rfl dX12_write_49 ?_
      refine r_imul C dX12_write_50 ?_
      refine r_iload_n C hl (kx := 3) rfl rfl dX12_write_51 ?_
      refine r_iadd C dX12_write_52 ?_
      refine r_lload_n C hl (kx := 4) rfl rfl dX12_write_53 ?_
      refine r_aload_n C hl (kx := 1) rfl rfl dX12_write_54 ?_
      refine gf_12_60 C hw t0 dX12_write_55 ?_
      refine r_iload_n C hl (kx := 2) rfl rfl dX12_write_58 ?_
      obtain ⟨g12, hf⟩ := gd_some hf
      refine r_iald C hw (n := 4) (ow_12_29 t0) (j := (nrm x1)) rfl g12 (by decide) dX12_write_59 ?_
      obtain ⟨r14, μ13, e15, hf⟩ := bn_some hf
      refine r_callSv C hw (K := [(1, x3), (0, (μ8 (x0 + 15) (nrm x1)))]) (c_X12_cut l D b e15) mi_X12_cut st_X12_cut kl_12_408 rfl rfl (lvh_sz hl) (by decide) (Kr := [(0, ((40 * x1) + x2)), (2, (x0 + 17))]) rfl (Nat.le_of_ble_eq_true rfl) dX12_write_60 (fun H locs hw => ?_)
      obtain ⟨g18, hf⟩ := gd_some hf
      obtain ⟨μ16, e17, hf⟩ := nm_some hf
      refine r_last C hw (n := 160) (ow_12_31 t0) (j := (nrm ((40 * x1) + x2))) rfl g18 (by decide) dX12_write_63 (fun H locs hw => ?_)
      rw [← e17] at hw
      refine r_aload_n C hl (kx := 1) rfl rfl dX12_write_64 ?_
      refine gf_12_66 C hw t0 dX12_write_65 ?_
      refine r_bipush C (by decide) dX12_write_68 ?_
      refine r_iload_n C hl (kx := 2) rfl rfl dX12_write_70 ?_
      refine r_imul C dX12_write_71 ?_
      refine r_iload_n C hl (kx := 3) rfl rfl dX12_write_72 ?_
      refine r_iadd C dX12_write_73 ?_
      obtain ⟨g19, hf⟩ := gd_some hf
      refine r_lald C hw (n := 160) (ow_12_31 t0) (j := (nrm ((40 * x1) + x2))) rfl g19 (by decide) dX12_write_74 ?_
      exact r_lret C hw hf dX12_write_75
    · have hf := ite_t c11 hf
      refine r_ldc2 C (z := (-7)) (by decide) kw1921 dX12_write_39 ?_
      exact r_lret C hw hf dX12_write_42
  · have hf := ite_f c6 hf
    refine r_iload C hl (kx := 0) rfl dX12_write_17 ?_
    refine r_i2l C dX12_write_19 ?_
    exact r_lret C hw hf dX12_write_20
theorem c_X12_write (l : Launch) (D : Ds) (b : Nat) {x0 x1 x2 x3 : Int} {μ μ' : Mem} {r : Int} (t0 : isK x0 12) (hf : f_X12_write x0 x1 x2 x3 μ = some (r, μ')) : Ctr l D b yX12_write cX12_write 6 (some .long) 2 [(2, x0), (0, x1), (0, x2), (1, x3)] μ (some (.long (jL r))) μ' := by
  refine Ctr.of (by decide +kernel) (Nat.le_of_ble_eq_true rfl) ?_
  intro p e s m below meth c C hw ls hl
  exact w_X12_write_0 C hf t0 hw hl
set_option maxHeartbeats 4000000 in
set_option maxRecDepth 20000 in
theorem w_X12_lists_93 (C : Cx p s m args meth c D b cX12_lists 7 RX12 (some .int)) {r : Int} {μ' : Mem} : ∀ (n : Nat) (x0 x1 x5 x6 : Int) (μ : Mem) (H : Heap) (locs : List Loc) (ls : Array Slot), f_X12_lists_w93 n x0 x1 x5 x6 μ = some (r, μ') → isK x0 12 → Hw D b μ s.heap H locs → lvh b ls 7 [(0, 2, x0), (1, 0, x1), (5, 0, x5), (6, 0, x6)] → W p l e (rm 7) s m args below meth c H locs 0 0 (QM below args s D b (some (.int (jI r))) μ') (F0 m 93 ls []) := by
  intro n
  induction n with
  | zero => intro x0 x1 x5 x6 μ H locs ls hf; cases hf
  | succ n ih =>
    intro x0 x1 x5 x6 μ H locs ls hf t0 hw hl
    rw [f_X12_lists_w93.eq_2] at hf
    refine r_iload C hl (kx := 3) rfl dX12_lists_93 ?_
    refine r_iload C hl (kx := 2) rfl dX12_lists_95 ?_
    refine r_icmp_ge C (tgt := 125) (by decide) dX12_lists_97 (fun c1 => ?_) (fun c1 => ?_)
    · have hf := ite_t c1 hf
      refine r_iload C hl (kx := 2) rfl dX12_lists_125 ?_
      exact r_iret C hw hf dX12_lists_127
    · have hf := ite_f c1 hf
      refine r_aload_n C hl (kx := 0) rfl rfl dX12_lists_100 ?_
      refine gf_12_66 C hw t0 dX12_lists_101 ?_
      refine r_bipush C (by decide) dX12_lists_104 ?_
      refine r_iload_n C hl (kx := 1) rfl rfl dX12_lists_106 ?_
      refine r_imul C dX12_lists_107 ?_
      refine r_iload C hl (kx := 3) rfl dX12_lists_108 ?_
      refine r_iadd C dX12_lists_110 ?_
      refine r_aload_n C hl (kx := 0) rfl rfl dX12_lists_111 ?_
      refine r_iload C hl (kx := 3) rfl dX12_lists_112 ?_
      obtain ⟨r3, μ2, e4, hf⟩ := bn_some hf
      refine r_callVv C hw (K := [(0, x6)]) ok12 t0 (c_X12_laneAt l D b t0 e4) mi_X12_laneAt in_X12_laneAt se_X12_laneAt kl_12_359 rfl rfl (lvh_sz hl) (by decide) (Kr := [(0, ((40 * x1) + x6)), (2, (x0 + 17))]) rfl (Nat.le_of_ble_eq_true rfl) dX12_lists_114 (fun H locs hw => ?_)
      refine r_i2l C dX12_lists_117 ?_
      obtain ⟨g7, hf⟩ := gd_some hf
      obtain ⟨μ5, e6, hf⟩ := nm_some hf
      refine r_last C hw (n := 160) (ow_12_31 t0) (j := (nrm ((40 * x1) + x6))) rfl g7 (by decide) dX12_lists_118 (fun H locs hw => ?_)
      rw [← e6] at hw
      refine r_iinc C hl (kx := 3) rfl (by decide) (L' := [(6, 0, (x6 + 1)), (0, 2, x0), (1, 0, x1), (5, 0, x5)]) rfl dX12_lists_119 (fun ls hl => ?_)
      refine r_goto C (tgt := 93) (by decide) dX12_lists_122 ?_
      exact ih _ _ _ _ _ _ _ _ hf t0 hw (lvh_sub hl [1, 2, 3, 0] rfl)
set_option maxHeartbeats 4000000 in
set_option maxRecDepth 20000 in
theorem w_X12_lists_88 (C : Cx p s m args meth c D b cX12_lists 7 RX12 (some .int)) {r : Int} {μ' : Mem} {x0 x1 s0 : Int} {μ : Mem} {H : Heap} {locs : List Loc} {ls : Array Slot} (hf : f_X12_lists_j88 x0 x1 s0 μ = some (r, μ')) (t0 : isK x0 12) (hw : Hw D b μ s.heap H locs) (hl : lvh b ls 7 [(0, 2, x0), (1, 0, x1)]) : W p l e (rm 7) s m args below meth c H locs 0 0 (QM below args s D b (some (.int (jI r))) μ') (F0 m 88 ls [.int (jI s0)]) := by
  unfold f_X12_lists_j88 at hf
  refine r_istore C hl (by decide) (L' := [(5, 0, s0), (0, 2, x0), (1, 0, x1)]) rfl dX12_lists_88 (fun ls hl => ?_)
  refine r_iconst C dX12_lists_90 ?_
  refine r_istore C hl (by decide) (L' := [(6, 0, 0), (5, 0, s0), (0, 2, x0), (1, 0, x1)]) rfl dX12_lists_91 (fun ls hl => ?_)
  exact w_X12_lists_93 C FU _ _ _ _ _ _ _ _ hf t0 hw (lvh_sub hl [2, 3, 1, 0] rfl)
set_option maxHeartbeats 4000000 in
set_option maxRecDepth 20000 in
theorem w_X12_lists_0 (C : Cx p s m args meth c D b cX12_lists 7 RX12 (some .int)) {r : Int} {μ' : Mem} {x0 x1 x2 : Int} {μ : Mem} {H : Heap} {locs : List Loc} {ls : Array Slot} (hf : f_X12_lists x0 x1 x2 μ = some (r, μ')) (t0 : isK x0 12) (hw : Hw D b μ s.heap H locs) (hl : lvh b ls 7 [(0, 2, x0), (1, 0, x1), (2, 0, x2)]) : W p l e (rm 7) s m args below meth c H locs 0 0 (QM below args s D b (some (.int (jI r))) μ') (F0 m 0 ls []) := by
  unfold f_X12_lists at hf
  refine r_aload_n C hl (kx := 0) rfl rfl dX12_lists_0 ?_
  refine r_iconst C dX12_lists_1 ?_
  obtain ⟨μ1, e2, hf⟩ := nm_some hf
  refine pf_12_1 C hw t0 dX12_lists_2 (fun H locs hw => ?_)
  rw [← e2] at hw
  refine r_iload_n C hl (kx := 1) rfl rfl dX12_lists_5 ?_
  refine r_i2l C dX12_lists_6 ?_
  refine r_lconst C (z := 0) (by decide) dX12_lists_7 ?_
  refine r_ldc2 C (z := 3) (by decide) kw1696 dX12_lists_8 ?_
  obtain ⟨r4, μ3, e5, hf⟩ := bn_some hf
  refine r_callSv C hw (K := [(1, (nrm x1)), (1, 0), (1, 3)]) (c_X12_within l D b e5) mi_X12_within st_X12_within kl_12_136 rfl rfl (lvh_sz hl) (by decide) (Kr := []) rfl (Nat.le_of_ble_eq_true rfl) dX12_lists_11 (fun H locs hw => ?_)
  refine r_if_eq C (tgt := 25) (by decide) dX12_lists_14 (fun c6 => ?_) (fun c6 => ?_)
  · have hf := ite_t c6 hf
    refine r_bipush C (by decide) dX12_lists_25 ?_
    exact r_iret C hw hf dX12_lists_27
  · have hf := ite_f c6 hf
    refine r_aload_n C hl (kx := 0) rfl rfl dX12_lists_17 ?_
    refine r_iload_n C hl (kx := 2) rfl rfl dX12_lists_18 ?_
    obtain ⟨r8, μ7, e9, hf⟩ := bn_some hf
    refine r_callVv C hw (K := [(0, x2)]) ok12 t0 (c_X12_isPlace l D b t0 e9) mi_X12_isPlace in_X12_isPlace se_X12_isPlace kl_12_335 rfl rfl (lvh_sz hl) (by decide) (Kr := []) rfl (Nat.le_of_ble_eq_true rfl) dX12_lists_19 (fun H locs hw => ?_)
    refine r_if_ne C (tgt := 28) (by decide) dX12_lists_22 (fun c10 => ?_) (fun c10 => ?_)
    · have hf := ite_f c10 hf
      refine r_aload_n C hl (kx := 0) rfl rfl dX12_lists_28 ?_
      refine r_iload_n C hl (kx := 1) rfl rfl dX12_lists_29 ?_
      obtain ⟨r12, μ11, e13, hf⟩ := bn_some hf
      refine r_callVv C hw (K := [(0, x1)]) ok12 t0 (c_X12_noTray l D b t0 e13) mi_X12_noTray in_X12_noTray se_X12_noTray kl_12_299 rfl rfl (lvh_sz hl) (by decide) (Kr := []) rfl (Nat.le_of_ble_eq_true rfl) dX12_lists_30 (fun H locs hw => ?_)
      refine r_istore_n C hl (by decide) (L' := [(3, 0, r12), (0, 2, x0), (1, 0, x1), (2, 0, x2)]) rfl rfl dX12_lists_33 (fun ls hl => ?_)
      refine r_iload_n C hl (kx := 0) rfl rfl dX12_lists_34 ?_
      refine r_if_eq C (tgt := 40) (by decide) dX12_lists_35 (fun c14 => ?_) (fun c14 => ?_)
      · have hf := ite_t c14 hf
        refine r_aload_n C hl (kx := 1) rfl rfl dX12_lists_40 ?_
        refine r_iload_n C hl (kx := 3) rfl rfl dX12_lists_41 ?_
        obtain ⟨r16, μ15, e17, hf⟩ := bn_some hf
        refine r_callVv C hw (K := [(0, x2)]) ok12 t0 (c_X12_laysCost l D b t0 e17) mi_X12_laysCost in_X12_laysCost se_X12_laysCost kl_12_356 rfl rfl (lvh_sz hl) (by decide) (Kr := []) rfl (Nat.le_of_ble_eq_true rfl) dX12_lists_42 (fun H locs hw => ?_)
        refine r_istore C hl (by decide) (L' := [(4, 0, r16), (3, 0, r12), (0, 2, x0), (1, 0, x1), (2, 0, x2)]) rfl dX12_lists_45 (fun ls hl => ?_)
        refine r_iload C hl (kx := 0) rfl dX12_lists_47 ?_
        refine r_ldcw C (z := 268435456) (by decide) kw1757 dX12_lists_49 ?_
        refine r_icmp_ne C (tgt := 58) (by decide) dX12_lists_52 (fun c18 => ?_) (fun c18 => ?_)
        · have hf := ite_f c18 hf
          refine r_iload C hl (kx := 0) rfl dX12_lists_58 ?_
          refine r_sipush C (by decide) dX12_lists_60 ?_
          refine r_irem C (by decide) dX12_lists_63 ?_
          refine r_aload_n C hl (kx := 2) rfl rfl dX12_lists_64 ?_
          refine gf_12_63 C hw t0 dX12_lists_65 ?_
          refine r_iload_n C hl (kx := 3) rfl rfl dX12_lists_68 ?_
          obtain ⟨g19, hf⟩ := gd_some hf
          refine r_iald C hw (n := 4) (ow_12_30 t0) (j := (nrm x1)) rfl g19 (by decide) dX12_lists_69 ?_
          refine r_icmp_ge C (tgt := 82) (by decide) dX12_lists_70 (fun c20 => ?_) (fun c20 => ?_)
          · have hf := ite_t c20 hf
            refine r_aload_n C hl (kx := 2) rfl rfl dX12_lists_82 ?_
            refine gf_12_63 C hw t0 dX12_lists_83 ?_
            refine r_iload_n C hl (kx := 3) rfl rfl dX12_lists_86 ?_
            obtain ⟨g21, hf⟩ := gd_some hf
            refine r_iald C hw (n := 4) (ow_12_30 t0) (j := (nrm x1)) rfl g21 (by decide) dX12_lists_87 ?_
            exact w_X12_lists_88 C hf t0 hw (lvh_sub hl [2, 3] rfl)
          · have hf := ite_f c20 hf
            refine r_iload C hl (kx := 0) rfl dX12_lists_73 ?_
            refine r_sipush C (by decide) dX12_lists_75 ?_
            refine r_irem C (by decide) dX12_lists_78 ?_
            refine r_goto C (tgt := 88) (by decide) dX12_lists_79 ?_
            exact w_X12_lists_88 C hf t0 hw (lvh_sub hl [2, 3] rfl)
        · have hf := ite_t c18 hf
          refine r_bipush C (by decide) dX12_lists_55 ?_
          exact r_iret C hw hf dX12_lists_57
      · have hf := ite_f c14 hf
        refine r_iload_n C hl (kx := 0) rfl rfl dX12_lists_38 ?_
        exact r_iret C hw hf dX12_lists_39
    · have hf := ite_t c10 hf
      refine r_bipush C (by decide) dX12_lists_25 ?_
      exact r_iret C hw hf dX12_lists_27
theorem c_X12_lists (l : Launch) (D : Ds) (b : Nat) {x0 x1 x2 : Int} {μ μ' : Mem} {r : Int} (t0 : isK x0 12) (hf : f_X12_lists x0 x1 x2 μ = some (r, μ')) : Ctr l D b yX12_lists cX12_lists 7 (some .int) 7 [(2, x0), (0, x1), (0, x2)] μ (some (.int (jI r))) μ' := by
  refine Ctr.of (by decide +kernel) (Nat.le_of_ble_eq_true rfl) ?_
  intro p e s m below meth c C hw ls hl
  exact w_X12_lists_0 C hf t0 hw hl
end WALK
