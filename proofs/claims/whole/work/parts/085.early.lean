section WALK
variable {p : Program} {l : Launch} {e : Env} {s : State} {m : MethodId} {args : Array Value} {below : List Frame} {meth : Method} {c : Code} {H : Heap} {locs : List Loc} {D : Ds} {b : Nat} {n0 : Nat}
set_option maxHeartbeats 4000000 in
set_option maxRecDepth 20000 in
theorem w_J9_max_7cf53_0 (C : Cx p s m args meth c D b cJ9_max_7cf53 2 RJ9 (some .int)) {r : Int} {μ' : Mem} {x0 x1 : Int} {μ : Mem} {H : Heap} {locs : List Loc} {ls : Array Slot} (hf : f_J9_max_7cf53 x0 x1 μ = some (r, μ')) (hw : Hw D b μ s.heap H locs) (hl : lvh b ls 2 [(0, 0, x0), (1, 0, x1)]) : W p l e (rm 0) s m args below meth c H locs 0 0 (QM below args s D b (some (.int (jI r))) μ') (F0 m 0 ls []) := by
  unfold f_J9_max_7cf53 at hf
  refine r_iload_n C hl (kx := 0) rfl rfl dJ9_max_7cf53_0 ?_
  refine r_iload_n C hl (kx := 1) rfl rfl dJ9_max_7cf53_1 ?_
  refine r_icmp_lt C (tgt := 9) (by decide) dJ9_max_7cf53_2 (fun c1 => ?_) (fun c1 => ?_)
  · have hf := ite_t c1 hf
    refine r_iload_n C hl (kx := 1) rfl rfl dJ9_max_7cf53_9 ?_
    exact r_iret C hw hf dJ9_max_7cf53_10
  · have hf := ite_f c1 hf
    refine r_iload_n C hl (kx := 0) rfl rfl dJ9_max_7cf53_5 ?_
    refine r_goto C (tgt := 10) (by decide) dJ9_max_7cf53_6 ?_
    exact r_iret C hw hf dJ9_max_7cf53_10
theorem c_J9_max_7cf53 (l : Launch) (D : Ds) (b : Nat) {x0 x1 : Int} {μ μ' : Mem} {r : Int} (hf : f_J9_max_7cf53 x0 x1 μ = some (r, μ')) : Ctr l D b yJ9_max_7cf53 cJ9_max_7cf53 2 (some .int) 0 [(0, x0), (0, x1)] μ (some (.int (jI r))) μ' := by
  refine Ctr.of (by decide +kernel) (Nat.le_of_ble_eq_true rfl) ?_
  intro p e s m below meth c C hw ls hl
  exact w_J9_max_7cf53_0 C hf hw hl
set_option maxHeartbeats 4000000 in
set_option maxRecDepth 20000 in
theorem w_J9_min_7cf53_0 (C : Cx p s m args meth c D b cJ9_min_7cf53 2 RJ9 (some .int)) {r : Int} {μ' : Mem} {x0 x1 : Int} {μ : Mem} {H : Heap} {locs : List Loc} {ls : Array Slot} (hf : f_J9_min_7cf53 x0 x1 μ = some (r, μ')) (hw : Hw D b μ s.heap H locs) (hl : lvh b ls 2 [(0, 0, x0), (1, 0, x1)]) : W p l e (rm 0) s m args below meth c H locs 0 0 (QM below args s D b (some (.int (jI r))) μ') (F0 m 0 ls []) := by
  unfold f_J9_min_7cf53 at hf
  refine r_iload_n C hl (kx := 0) rfl rfl dJ9_min_7cf53_0 ?_
  refine r_iload_n C hl (kx := 1) rfl rfl dJ9_min_7cf53_1 ?_
  refine r_icmp_gt C (tgt := 9) (by decide) dJ9_min_7cf53_2 (fun c1 => ?_) (fun c1 => ?_)
  · have hf := ite_t c1 hf
    refine r_iload_n C hl (kx := 1) rfl rfl dJ9_min_7cf53_9 ?_
    exact r_iret C hw hf dJ9_min_7cf53_10
  · have hf := ite_f c1 hf
    refine r_iload_n C hl (kx := 0) rfl rfl dJ9_min_7cf53_5 ?_
    refine r_goto C (tgt := 10) (by decide) dJ9_min_7cf53_6 ?_
    exact r_iret C hw hf dJ9_min_7cf53_10
theorem c_J9_min_7cf53 (l : Launch) (D : Ds) (b : Nat) {x0 x1 : Int} {μ μ' : Mem} {r : Int} (hf : f_J9_min_7cf53 x0 x1 μ = some (r, μ')) : Ctr l D b yJ9_min_7cf53 cJ9_min_7cf53 2 (some .int) 0 [(0, x0), (0, x1)] μ (some (.int (jI r))) μ' := by
  refine Ctr.of (by decide +kernel) (Nat.le_of_ble_eq_true rfl) ?_
  intro p e s m below meth c C hw ls hl
  exact w_J9_min_7cf53_0 C hf hw hl
set_option maxHeartbeats 4000000 in
set_option maxRecDepth 20000 in
theorem w_J1_canEncode_9a6ad_0 (C : Cx p s m args meth c D b cJ1_canEncode_9a6ad 1 RJ1 (some .boolean)) {r : Int} {μ' : Mem} {x0 : Int} {μ : Mem} {H : Heap} {locs : List Loc} {ls : Array Slot} (hf : f_J1_canEncode_9a6ad x0 μ = some (r, μ')) (hw : Hw D b μ s.heap H locs) (hl : lvh b ls 1 [(0, 0, x0)]) : W p l e (rm 0) s m args below meth c H locs 0 0 (QM below args s D b (some (.int (jI r))) μ') (F0 m 0 ls []) := by
  unfold f_J1_canEncode_9a6ad at hf
  refine r_iload_n C hl (kx := 0) rfl rfl dJ1_canEncode_9a6ad_0 ?_
  refine r_if_lt C (tgt := 15) (by decide) dJ1_canEncode_9a6ad_1 (fun c1 => ?_) (fun c1 => ?_)
  · have hf := ite_t c1 hf
    refine r_iconst C dJ1_canEncode_9a6ad_15 ?_
    exact r_zret C hw (by decide) hf dJ1_canEncode_9a6ad_16
  · have hf := ite_f c1 hf
    refine r_iload_n C hl (kx := 0) rfl rfl dJ1_canEncode_9a6ad_4 ?_
    refine r_sipush C (by decide) dJ1_canEncode_9a6ad_5 ?_
    refine r_icmp_gt C (tgt := 15) (by decide) dJ1_canEncode_9a6ad_8 (fun c2 => ?_) (fun c2 => ?_)
    · have hf := ite_t c2 hf
      refine r_iconst C dJ1_canEncode_9a6ad_15 ?_
      exact r_zret C hw (by decide) hf dJ1_canEncode_9a6ad_16
    · have hf := ite_f c2 hf
      refine r_iconst C dJ1_canEncode_9a6ad_11 ?_
      refine r_goto C (tgt := 16) (by decide) dJ1_canEncode_9a6ad_12 ?_
      exact r_zret C hw (by decide) hf dJ1_canEncode_9a6ad_16
theorem c_J1_canEncode_9a6ad (l : Launch) (D : Ds) (b : Nat) {x0 : Int} {μ μ' : Mem} {r : Int} (hf : f_J1_canEncode_9a6ad x0 μ = some (r, μ')) : Ctr l D b yJ1_canEncode_9a6ad cJ1_canEncode_9a6ad 1 (some .boolean) 0 [(0, x0)] μ (some (.int (jI r))) μ' := by
  refine Ctr.of (by decide +kernel) (Nat.le_of_ble_eq_true rfl) ?_
  intro p e s m below meth c C hw ls hl
  exact w_J1_canEncode_9a6ad_0 C hf hw hl
end WALK
