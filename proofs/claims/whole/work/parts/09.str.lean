/-! the texts: String.length, charAt, indexOf on them -/
theorem js_38 : Cond.fieldLink RJ0 38 "java/lang/String" "COMPACT_STRINGS" "Z" ∈ gT := gT_in (inT2 (List.mem_of_getElem? (i := 234) rfl)) rfl
theorem js_1053 : Cond.fieldLink RJ0 1053 "jdk/internal/util/Preconditions" "SIOOBE_FORMATTER" "Ljava/util/function/BiFunction;" ∈ gT := gT_in (inT3 (List.mem_of_getElem? (i := 10) rfl)) rfl
theorem js_9 : Cond.fieldLink RJ0 9 "java/lang/String" "value" "[B" ∈ gT := gT_in (inT8 (List.mem_of_getElem? (i := 136) rfl)) rfl
theorem js_15 : Cond.fieldLink RJ0 15 "java/lang/String" "coder" "B" ∈ gT := gT_in (inT8 (List.mem_of_getElem? (i := 137) rfl)) rfl
theorem ki_RJ0s : Cond.initialized RJ0 ∈ gT := gT_in (inT1 (List.mem_of_getElem? (i := 16) rfl)) rfl
theorem ki_RJ1s : Cond.initialized RJ1 ∈ gT := gT_in (inT1 (List.mem_of_getElem? (i := 17) rfl)) rfl
theorem ki_RJ3s : Cond.initialized RJ3 ∈ gT := gT_in (inT1 (List.mem_of_getElem? (i := 18) rfl)) rfl
theorem kc_J0_length_8abf5 : Cond.code yJ0_length_8abf5 cJ0_length_8abf5 1 (some .int) ∈ gT := gT_in (inT2 (List.mem_of_getElem? (i := 229) rfl)) rfl
theorem mi_J0_length_8abf5 : Mi yJ0_length_8abf5 cJ0_length_8abf5 1 (some .int) 0 := ⟨kc_J0_length_8abf5, ki_RJ0s, ⟨by decide +kernel, by decide +kernel⟩, by decide +kernel⟩
theorem in_J0_length_8abf5 : Cond.instanceMethod yJ0_length_8abf5 ∈ gT := gT_in (inT2 (List.mem_of_getElem? (i := 227) rfl)) rfl
theorem se_J0_length_8abf5 : Cond.selects RJ0 yJ0_length_8abf5 yJ0_length_8abf5 ∈ gT := gT_in (inT2 (List.mem_of_getElem? (i := 228) rfl)) rfl
theorem kc_J0_coder_7d493 : Cond.code yJ0_coder_7d493 cJ0_coder_7d493 1 (some .byte) ∈ gT := gT_in (inT2 (List.mem_of_getElem? (i := 233) rfl)) rfl
theorem mi_J0_coder_7d493 : Mi yJ0_coder_7d493 cJ0_coder_7d493 1 (some .byte) 0 := ⟨kc_J0_coder_7d493, ki_RJ0s, ⟨by decide +kernel, by decide +kernel⟩, by decide +kernel⟩
theorem in_J0_coder_7d493 : Cond.instanceMethod yJ0_coder_7d493 ∈ gT := gT_in (inT2 (List.mem_of_getElem? (i := 231) rfl)) rfl
theorem se_J0_coder_7d493 : Cond.selects RJ0 yJ0_coder_7d493 yJ0_coder_7d493 ∈ gT := gT_in (inT2 (List.mem_of_getElem? (i := 232) rfl)) rfl
theorem kc_J0_charAt_5068e : Cond.code yJ0_charAt_5068e cJ0_charAt_5068e 2 (some .char) ∈ gT := gT_in (inT2 (List.mem_of_getElem? (i := 239) rfl)) rfl
theorem mi_J0_charAt_5068e : Mi yJ0_charAt_5068e cJ0_charAt_5068e 2 (some .char) 1 := ⟨kc_J0_charAt_5068e, ki_RJ0s, ⟨by decide +kernel, by decide +kernel⟩, by decide +kernel⟩
theorem in_J0_charAt_5068e : Cond.instanceMethod yJ0_charAt_5068e ∈ gT := gT_in (inT2 (List.mem_of_getElem? (i := 237) rfl)) rfl
theorem se_J0_charAt_5068e : Cond.selects RJ0 yJ0_charAt_5068e yJ0_charAt_5068e ∈ gT := gT_in (inT2 (List.mem_of_getElem? (i := 238) rfl)) rfl
theorem kc_J0_isLatin1_aae02 : Cond.code yJ0_isLatin1_aae02 cJ0_isLatin1_aae02 1 (some .boolean) ∈ gT := gT_in (inT3 (List.mem_of_getElem? (i := 3) rfl)) rfl
theorem mi_J0_isLatin1_aae02 : Mi yJ0_isLatin1_aae02 cJ0_isLatin1_aae02 1 (some .boolean) 0 := ⟨kc_J0_isLatin1_aae02, ki_RJ0s, ⟨by decide +kernel, by decide +kernel⟩, by decide +kernel⟩
theorem in_J0_isLatin1_aae02 : Cond.instanceMethod yJ0_isLatin1_aae02 ∈ gT := gT_in (inT3 (List.mem_of_getElem? (i := 1) rfl)) rfl
theorem se_J0_isLatin1_aae02 : Cond.selects RJ0 yJ0_isLatin1_aae02 yJ0_isLatin1_aae02 ∈ gT := gT_in (inT3 (List.mem_of_getElem? (i := 2) rfl)) rfl
theorem kc_J1_charAt_3b067 : Cond.code yJ1_charAt_3b067 cJ1_charAt_3b067 2 (some .char) ∈ gT := gT_in (inT3 (List.mem_of_getElem? (i := 6) rfl)) rfl
theorem mi_J1_charAt_3b067 : Mi yJ1_charAt_3b067 cJ1_charAt_3b067 2 (some .char) 2 := ⟨kc_J1_charAt_3b067, ki_RJ1s, ⟨by decide +kernel, by decide +kernel⟩, by decide +kernel⟩
theorem st_J1_charAt_3b067 : Cond.static yJ1_charAt_3b067 ∈ gT := gT_in (inT3 (List.mem_of_getElem? (i := 5) rfl)) rfl
theorem kc_J0_checkIndex_df160 : Cond.code yJ0_checkIndex_df160 cJ0_checkIndex_df160 2 (none) ∈ gT := gT_in (inT3 (List.mem_of_getElem? (i := 9) rfl)) rfl
theorem mi_J0_checkIndex_df160 : Mi yJ0_checkIndex_df160 cJ0_checkIndex_df160 2 (none) 2 := ⟨kc_J0_checkIndex_df160, ki_RJ0s, ⟨by decide +kernel, by decide +kernel⟩, by decide +kernel⟩
theorem st_J0_checkIndex_df160 : Cond.static yJ0_checkIndex_df160 ∈ gT := gT_in (inT3 (List.mem_of_getElem? (i := 8) rfl)) rfl
theorem kc_J3_checkIndex_8e157 : Cond.code yJ3_checkIndex_8e157 cJ3_checkIndex_8e157 3 (some .int) ∈ gT := gT_in (inT3 (List.mem_of_getElem? (i := 14) rfl)) rfl
theorem mi_J3_checkIndex_8e157 : Mi yJ3_checkIndex_8e157 cJ3_checkIndex_8e157 3 (some .int) 3 := ⟨kc_J3_checkIndex_8e157, ki_RJ3s, ⟨by decide +kernel, by decide +kernel⟩, by decide +kernel⟩
theorem st_J3_checkIndex_8e157 : Cond.static yJ3_checkIndex_8e157 ∈ gT := gT_in (inT3 (List.mem_of_getElem? (i := 13) rfl)) rfl
theorem kc_J0_indexOf_0f7a4 : Cond.code yJ0_indexOf_0f7a4 cJ0_indexOf_0f7a4 2 (some .int) ∈ gT := gT_in (inT3 (List.mem_of_getElem? (i := 56) rfl)) rfl
theorem mi_J0_indexOf_0f7a4 : Mi yJ0_indexOf_0f7a4 cJ0_indexOf_0f7a4 2 (some .int) 1 := ⟨kc_J0_indexOf_0f7a4, ki_RJ0s, ⟨by decide +kernel, by decide +kernel⟩, by decide +kernel⟩
theorem in_J0_indexOf_0f7a4 : Cond.instanceMethod yJ0_indexOf_0f7a4 ∈ gT := gT_in (inT3 (List.mem_of_getElem? (i := 54) rfl)) rfl
theorem se_J0_indexOf_0f7a4 : Cond.selects RJ0 yJ0_indexOf_0f7a4 yJ0_indexOf_0f7a4 ∈ gT := gT_in (inT3 (List.mem_of_getElem? (i := 55) rfl)) rfl
theorem kc_J0_indexOf_7cf53 : Cond.code yJ0_indexOf_7cf53 cJ0_indexOf_7cf53 3 (some .int) ∈ gT := gT_in (inT3 (List.mem_of_getElem? (i := 60) rfl)) rfl
theorem mi_J0_indexOf_7cf53 : Mi yJ0_indexOf_7cf53 cJ0_indexOf_7cf53 3 (some .int) 2 := ⟨kc_J0_indexOf_7cf53, ki_RJ0s, ⟨by decide +kernel, by decide +kernel⟩, by decide +kernel⟩
theorem in_J0_indexOf_7cf53 : Cond.instanceMethod yJ0_indexOf_7cf53 ∈ gT := gT_in (inT3 (List.mem_of_getElem? (i := 58) rfl)) rfl
theorem se_J0_indexOf_7cf53 : Cond.selects RJ0 yJ0_indexOf_7cf53 yJ0_indexOf_7cf53 ∈ gT := gT_in (inT3 (List.mem_of_getElem? (i := 59) rfl)) rfl
theorem kc_J1_indexOf_4cfef : Cond.code yJ1_indexOf_4cfef cJ1_indexOf_4cfef 4 (some .int) ∈ gT := gT_in (inT3 (List.mem_of_getElem? (i := 64) rfl)) rfl
theorem mi_J1_indexOf_4cfef : Mi yJ1_indexOf_4cfef cJ1_indexOf_4cfef 4 (some .int) 4 := ⟨kc_J1_indexOf_4cfef, ki_RJ1s, ⟨by decide +kernel, by decide +kernel⟩, by decide +kernel⟩
theorem st_J1_indexOf_4cfef : Cond.static yJ1_indexOf_4cfef ∈ gT := gT_in (inT3 (List.mem_of_getElem? (i := 63) rfl)) rfl
theorem kc_J1_indexOfChar_4cfef : Cond.code yJ1_indexOfChar_4cfef cJ1_indexOfChar_4cfef 6 (some .int) ∈ gT := gT_in (inT3 (List.mem_of_getElem? (i := 72) rfl)) rfl
theorem mi_J1_indexOfChar_4cfef : Mi yJ1_indexOfChar_4cfef cJ1_indexOfChar_4cfef 6 (some .int) 4 := ⟨kc_J1_indexOfChar_4cfef, ki_RJ1s, ⟨by decide +kernel, by decide +kernel⟩, by decide +kernel⟩
theorem st_J1_indexOfChar_4cfef : Cond.static yJ1_indexOfChar_4cfef ∈ gT := gT_in (inT3 (List.mem_of_getElem? (i := 71) rfl)) rfl
theorem kl_RJ0_335 : Cond.methodLink RJ0 335 yJ0_coder_7d493 ∈ gT := gT_in (inT2 (List.mem_of_getElem? (i := 230) rfl)) rfl
theorem kl_RJ0_492 : Cond.methodLink RJ0 492 yJ0_isLatin1_aae02 ∈ gT := gT_in (inT3 (List.mem_of_getElem? (i := 0) rfl)) rfl
theorem kl_RJ0_495 : Cond.methodLink RJ0 495 yJ1_charAt_3b067 ∈ gT := gT_in (inT3 (List.mem_of_getElem? (i := 4) rfl)) rfl
theorem kl_RJ1_9 : Cond.methodLink RJ1 9 yJ0_checkIndex_df160 ∈ gT := gT_in (inT3 (List.mem_of_getElem? (i := 7) rfl)) rfl
theorem kl_RJ0_1059 : Cond.methodLink RJ0 1059 yJ3_checkIndex_8e157 ∈ gT := gT_in (inT3 (List.mem_of_getElem? (i := 12) rfl)) rfl
theorem kl_RJ0_633 : Cond.methodLink RJ0 633 yJ0_indexOf_7cf53 ∈ gT := gT_in (inT3 (List.mem_of_getElem? (i := 57) rfl)) rfl
theorem kl_RJ0_505 : Cond.methodLink RJ0 505 yJ0_length_8abf5 ∈ gT := gT_in (inT3 (List.mem_of_getElem? (i := 61) rfl)) rfl
theorem kl_RJ0_637 : Cond.methodLink RJ0 637 yJ1_indexOf_4cfef ∈ gT := gT_in (inT3 (List.mem_of_getElem? (i := 62) rfl)) rfl
theorem kl_RJ1_95 : Cond.methodLink RJ1 95 yJ1_indexOfChar_4cfef ∈ gT := gT_in (inT3 (List.mem_of_getElem? (i := 70) rfl)) rfl
theorem kl_RJ1_88 : Cond.methodLink RJ1 88 yJ1_canEncode_9a6ad ∈ gT := gT_in (inT3 (List.mem_of_getElem? (i := 65) rfl)) rfl
theorem kl_RJ1_92 : Cond.methodLink RJ1 92 yJ9_max_7cf53 ∈ gT := gT_in (inT3 (List.mem_of_getElem? (i := 68) rfl)) rfl
theorem kl_RJ1_38 : Cond.methodLink RJ1 38 yJ9_min_7cf53 ∈ gT := gT_in (inT3 (List.mem_of_getElem? (i := 69) rfl)) rfl
section STR
variable {p : Program} {l : Launch} {e : Env} {R : Room} {s : State} {m : MethodId} {args : Array Value} {below : List Frame} {meth : Method} {c : Code} {H : Heap} {locs : List Loc} {cells slots : Nat} {Q : State → Prop}
variable {D : Ds} {cc : ByteArray} {nL : Nat} {own : String} {ret : Option FieldType} {pc : Nat} {ls : Array Slot} {rest : List Value} {b : Nat} {μ μ' : Mem} {H0 : Heap}
variable {y : MethodName} {bytes : ByteArray} {maxL : Nat} {ret' : Option FieldType} {d' n idx : Nat}
theorem r_load3 (C : Cx p s m args meth c D b cc nL own ret) {kk : Fin 4} {i kx : Nat} {x : Int} {L : Lv} (hl : lvh b ls nL L) (hk : L[kx]? = some (i, 3, x)) (hi : (kk : Nat) = i) (hd : decode cc pc = .ok (.aload_n kk, 1)) (k : W p l e R s m args below meth c H locs cells slots Q (F0 m (pc + 1) ls (.ref x.toNat :: rest))) : W p l e R s m args below meth c H locs cells slots Q (F0 m pc ls rest) := lv_aload_n C.1 C.2.1 hd hi (lvh_at hl kx hk) k
theorem r_xret {ty : FieldType} (C : Cx p s m args meth c D b cc nL own (some ty)) (hw : Hw D b μ s.heap H locs) {v : Int} (hn : narrow ty (.int (jI v)) = .int (jI v)) (hd : decode cc pc = .ok (.ireturn, 1)) : W p l e R s m args below meth c H locs 0 0 (QM below args s D b (some (.int (jI v))) μ) (F0 m pc ls [.int (jI v)]) :=
  W.zret (ty := ty) C.1 C.2.1 C.2.2.2.2.2.2.1 hn (fun t ht hW => ⟨rfl, by rw [ht]; exact hw.1, hw.2.F ht⟩) hw.2.2.2 hd C.2.2.2.2.2.2.2.1
theorem r_callK (C : Cx p s m args meth c D b cc nL own ret) (hw : Hw D b μ s.heap H locs) {k9 : Nat} (h9 : k9 < 3) {K : Av} {st0 : List Value} {v : Value} (hM : Ctr l D b y bytes maxL ret' d' ((3, ((D.2.2.1 k9 : Nat) : Int)) :: K) μ (some v) μ') (hm : Mi y bytes maxL ret' n) (hi : Cond.instanceMethod y ∈ gT) (hs : Cond.selects RJ0 y y ∈ gT) (hlk : Cond.methodLink own idx y ∈ gT) (hst : (vls b K).reverse ++ .ref (D.2.2.1 k9) :: rest = st0) (hn : K.length = n) (hz : ls.size = nL) (hR : d' + 1 ≤ R.frames ∧ 8 + (maxL + 11) + 41 * d' ≤ R.locals) (hr : rest.length ≤ 4) (hd : decode cc pc = .ok (.invokevirtual idx, 3))
    (k : ∀ (H : Heap) (locs : List Loc), Hw D b μ' s.heap H locs → W p l e R s m args below meth c H locs 0 0 Q (F0 m (pc + 3) ls (v :: rest))) : W p l e R s m args below meth c H locs 0 0 Q (F0 m pc ls st0) := by
  have hM' : Met l y (Cond.code y bytes maxL ret' :: gT) (rm d') (PreC D b (.ref (D.2.2.1 k9) :: vls b K) μ) (Post D b (some v) μ') 0 0 (Ab b NC) := hM
  have hK := C.2.2.2.2.2.1
  have hO := C.2.2.2.2.2.2.2.2
  exact call_on hw (va_runV (As := vls b K) (rest := rest) (C := RJ0) ⟨C.1, C.2.1, C.2.2.1, C.2.2.2.1, C.2.2.2.2.1⟩ hM' ⟨callB_row C hm hlk hR, C.2.2.2.2.1 _ hi, C.2.2.2.2.1 _ hs⟩ ⟨PreC.blind _ _ _ _, vk_recv hO.1 h9 hw.2, fun U hU hW => ⟨rfl, by rw [hU]; exact hw.1, va_K.moved hW.alike hK, hO.moved hw.2 hU hW⟩⟩ rfl (by rw [List.length_map]; exact hn) hz hst.symm (lv_room (cat_len rest hr)) hd ⟨Nat.zero_le _, Nat.zero_le _⟩) k
theorem r_callS3 (C : Cx p s m args meth c D b cc nL own ret) (hw : Hw D b μ s.heap H locs) {K : Av} {st0 : List Value} {v : Value} (hM : Ctr l D b y bytes maxL ret' d' K μ (some v) μ') (hm : Mi y bytes maxL ret' n) (hi : Cond.static y ∈ gT) (hlk : Cond.methodLink own idx y ∈ gT) (hst : (vls b K).reverse ++ rest = st0) (hn : K.length = n) (hz : ls.size = nL) (hR : d' + 1 ≤ R.frames ∧ 8 + (maxL + 11) + 41 * d' ≤ R.locals) (hr : rest.length ≤ 4) (hd : decode cc pc = .ok (.invokestatic idx, 3))
    (k : ∀ (H : Heap) (locs : List Loc), Hw D b μ' s.heap H locs → W p l e R s m args below meth c H locs 0 0 Q (F0 m (pc + 3) ls (v :: rest))) : W p l e R s m args below meth c H locs 0 0 Q (F0 m pc ls st0) := r_callS C hw hM hm hi hlk hst hn hz hR (cat_len rest hr) hd k
end STR
theorem c_latin (l : Launch) (D : Ds) (b : Nat) {k9 : Nat} (h9 : k9 < 3) {μ : Mem} : Ctr l D b yJ0_isLatin1_aae02 cJ0_isLatin1_aae02 1 (some .boolean) 0 [(3, ((D.2.2.1 k9 : Nat) : Int))] μ (some (.int (jI 1))) μ := by
  refine Ctr.of (by decide +kernel) (Nat.le_of_ble_eq_true rfl) ?_
  intro p e s m below meth c C hw ls hl
  have hO := C.2.2.2.2.2.2.2.2
  refine va_gets C.1 C.2.1 hO.2.2.2.2.2.1 hw.2 C.2.2.2.1 (C.2.2.2.2.1 _ js_38) (fun _ h => h) dJ0_isLatin1_aae02_0 ?_
  refine r_if_eq C (tgt := 17) (by decide) dJ0_isLatin1_aae02_3 (fun h => absurd h (by decide)) (fun _ => ?_)
  refine r_load3 C hl (kx := 0) rfl rfl dJ0_isLatin1_aae02_6 ?_
  refine vk_getf C.1 C.2.1 (hO.1.1 k9 h9).2.1 hw.2 C.2.2.2.1 (C.2.2.2.2.1 _ js_15) (fun _ h => h) dJ0_isLatin1_aae02_7 ?_
  refine lv_if_ne C.1 C.2.1 (tgt := 17) dJ0_isLatin1_aae02_10 (by decide) (fun h => absurd rfl h) (fun _ => ?_)
  refine r_iconst C dJ0_isLatin1_aae02_13 ?_
  refine r_goto C (tgt := 18) (by decide) dJ0_isLatin1_aae02_14 ?_
  exact r_zret C hw (by decide) rfl dJ0_isLatin1_aae02_18
theorem c_coder (l : Launch) (D : Ds) (b : Nat) {k9 : Nat} (h9 : k9 < 3) {μ : Mem} : Ctr l D b yJ0_coder_7d493 cJ0_coder_7d493 1 (some .byte) 0 [(3, ((D.2.2.1 k9 : Nat) : Int))] μ (some (.int (jI 0))) μ := by
  refine Ctr.of (by decide +kernel) (Nat.le_of_ble_eq_true rfl) ?_
  intro p e s m below meth c C hw ls hl
  have hO := C.2.2.2.2.2.2.2.2
  refine va_gets C.1 C.2.1 hO.2.2.2.2.2.1 hw.2 C.2.2.2.1 (C.2.2.2.2.1 _ js_38) (fun _ h => h) dJ0_coder_7d493_0 ?_
  refine r_if_eq C (tgt := 13) (by decide) dJ0_coder_7d493_3 (fun h => absurd h (by decide)) (fun _ => ?_)
  refine r_load3 C hl (kx := 0) rfl rfl dJ0_coder_7d493_6 ?_
  refine vk_getf C.1 C.2.1 (hO.1.1 k9 h9).2.1 hw.2 C.2.2.2.1 (C.2.2.2.2.1 _ js_15) (fun _ h => h) dJ0_coder_7d493_7 ?_
  refine r_goto C (tgt := 14) (by decide) dJ0_coder_7d493_10 ?_
  exact r_xret (v := 0) C hw rfl dJ0_coder_7d493_14
theorem c_slen (l : Launch) (D : Ds) (b : Nat) {k9 n : Nat} (h9 : k9 < 3) (hn : lenS.getD k9 0 = n) {μ : Mem} : Ctr l D b yJ0_length_8abf5 cJ0_length_8abf5 1 (some .int) 1 [(3, ((D.2.2.1 k9 : Nat) : Int))] μ (some (.int (jI n))) μ := by
  have e0 : jI (n : Int) = jI (jshr (n : Int) 0) := by
    unfold jshr
    rw [jI_to, show jI 0 = 0 from rfl, sb_shr0]
  rw [e0]
  refine Ctr.of (by decide +kernel) (Nat.le_of_ble_eq_true rfl) ?_
  intro p e s m below meth c C hw ls hl
  have hO := C.2.2.2.2.2.2.2.2
  refine r_load3 C hl (kx := 0) rfl rfl dJ0_length_8abf5_0 ?_
  refine vk_getf C.1 C.2.1 (hO.1.1 k9 h9).2.2.1 hw.2 C.2.2.2.1 (C.2.2.2.2.1 _ js_9) (fun _ h => h) dJ0_length_8abf5_1 ?_
  refine va_tlen C.1 C.2.1 (hO.1.1 k9 h9).2.2.2 hw.2 (v := jI (n : Int)) (by rw [hn]; rfl) dJ0_length_8abf5_4 ?_
  refine r_load3 C hl (kx := 0) rfl rfl dJ0_length_8abf5_5 ?_
  refine r_callK C hw h9 (K := []) (c_coder l D b h9) mi_J0_coder_7d493 in_J0_coder_7d493 se_J0_coder_7d493 kl_RJ0_335 rfl rfl (lvh_sz hl) (by decide) (Nat.le_of_ble_eq_true rfl) dJ0_length_8abf5_6 (fun H locs hw => ?_)
  refine r_ishr C dJ0_length_8abf5_9 ?_
  exact r_iret C hw rfl dJ0_length_8abf5_10
theorem c_pcheck (l : Launch) (D : Ds) (b : Nat) {t : Nat} (ht : t = 2 ∨ t = 3) {i n z : Int} (h0 : 0 ≤ nrm i) (h1 : nrm i < nrm n) {μ : Mem} : Ctr l D b yJ3_checkIndex_8e157 cJ3_checkIndex_8e157 3 (some .int) 0 [(0, i), (0, n), (t, z)] μ (some (.int (jI i))) μ := by
  refine Ctr.of (by decide +kernel) (by rcases ht with rfl | rfl <;> exact Nat.le_of_ble_eq_true rfl) ?_
  intro p e s m below meth c C hw ls hl
  refine r_iload_n C hl (kx := 0) rfl rfl dJ3_checkIndex_8e157_0 ?_
  refine r_if_lt C (tgt := 9) (by decide) dJ3_checkIndex_8e157_1 (fun h => absurd h (Int.not_lt.mpr h0)) (fun _ => ?_)
  refine r_iload_n C hl (kx := 0) rfl rfl dJ3_checkIndex_8e157_4 ?_
  refine r_iload_n C hl (kx := 1) rfl rfl dJ3_checkIndex_8e157_5 ?_
  refine r_icmp_lt C (tgt := 16) (by decide) dJ3_checkIndex_8e157_6 (fun _ => ?_) (fun h => absurd h1 h)
  refine r_iload_n C hl (kx := 0) rfl rfl dJ3_checkIndex_8e157_16 ?_
  exact r_iret C hw rfl dJ3_checkIndex_8e157_17
theorem c_scheck (l : Launch) (D : Ds) (b : Nat) {i n : Int} (h0 : 0 ≤ nrm i) (h1 : nrm i < nrm n) {μ : Mem} : Ctr l D b yJ0_checkIndex_df160 cJ0_checkIndex_df160 2 none 1 [(0, i), (0, n)] μ none μ := by
  refine Ctr.of (by decide +kernel) (Nat.le_of_ble_eq_true rfl) ?_
  intro p e s m below meth c C hw ls hl
  have hO := C.2.2.2.2.2.2.2.2
  refine r_iload_n C hl (kx := 0) rfl rfl dJ0_checkIndex_df160_0 ?_
  refine r_iload_n C hl (kx := 1) rfl rfl dJ0_checkIndex_df160_1 ?_
  rcases hO.2.2.2.2.2.2 with hZ | ⟨t, hZ⟩
  · refine va_gets C.1 C.2.1 hZ hw.2 C.2.2.2.1 (C.2.2.2.2.1 _ js_1053) (fun _ h => h) dJ0_checkIndex_df160_2 ?_
    refine r_callS3 C hw (K := [(0, i), (0, n), (2, (-1))]) (c_pcheck l D b (Or.inl rfl) h0 h1) mi_J3_checkIndex_8e157 st_J3_checkIndex_8e157 kl_RJ0_1059 rfl rfl (lvh_sz hl) (by decide) (Nat.le_of_ble_eq_true rfl) dJ0_checkIndex_df160_5 (fun H locs hw => ?_)
    refine r_pop C rfl dJ0_checkIndex_df160_8 ?_
    exact r_vret (v := 0) (r := 0) C hw rfl dJ0_checkIndex_df160_9
  · refine va_gets C.1 C.2.1 hZ hw.2 C.2.2.2.1 (C.2.2.2.2.1 _ js_1053) (fun _ h => h) dJ0_checkIndex_df160_2 ?_
    refine r_callS3 C hw (K := [(0, i), (0, n), (3, ((t : Nat) : Int))]) (c_pcheck l D b (Or.inr rfl) h0 h1) mi_J3_checkIndex_8e157 st_J3_checkIndex_8e157 kl_RJ0_1059 rfl rfl (lvh_sz hl) (by decide) (Nat.le_of_ble_eq_true rfl) dJ0_checkIndex_df160_5 (fun H locs hw => ?_)
    refine r_pop C rfl dJ0_checkIndex_df160_8 ?_
    exact r_vret (v := 0) (r := 0) C hw rfl dJ0_checkIndex_df160_9
theorem sch_ok : ∀ k, k < 3 → ∀ j, j < lenS.getD k 0 → (((bytS.getD k []).getD j 0 &&& jI 255).toUInt32 % 65536).toInt32 = jI (sch k j) ∧ narrow .char (.int (jI (sch k j))) = .int (jI (sch k j)) ∧ lenS.getD k 0 < 2147483648 ∧ nrm (sch k j) = sch k j := by decide +kernel
theorem c_lchar (l : Launch) (D : Ds) (b : Nat) {k9 : Nat} (h9 : k9 < 3) {i : Int} (hi : 0 ≤ nrm i ∧ nrm i < (lenS.getD k9 0 : Nat)) {μ : Mem} : Ctr l D b yJ1_charAt_3b067 cJ1_charAt_3b067 2 (some .char) 2 [(3, ((D.2.2.2 k9 : Nat) : Int)), (0, i)] μ (some (.int (jI (sch k9 (nrm i))))) μ := by
  obtain ⟨q1, q2, q3, q4⟩ := sch_ok k9 h9 (nrm i).toNat (by omega)
  rw [toNat_cast hi.1] at q1 q2 q4
  refine Ctr.of (by decide +kernel) (Nat.le_of_ble_eq_true rfl) ?_
  intro p e s m below meth c C hw ls hl
  have hO := C.2.2.2.2.2.2.2.2
  refine r_iload_n C hl (kx := 1) rfl rfl dJ1_charAt_3b067_0 ?_
  refine r_load3 C hl (kx := 0) rfl rfl dJ1_charAt_3b067_1 ?_
  refine va_tlen C.1 C.2.1 (hO.1.1 k9 h9).2.2.2 hw.2 (v := jI ((lenS.getD k9 0 : Nat) : Int)) rfl dJ1_charAt_3b067_2 ?_
  refine r_callSn C hw (K := [(0, i), (0, ((lenS.getD k9 0 : Nat) : Int))]) (c_scheck l D b hi.1 (by rw [nrm_id (z := ((lenS.getD k9 0 : Nat) : Int)) (by omega) (by omega)]; exact hi.2)) mi_J0_checkIndex_df160 st_J0_checkIndex_df160 kl_RJ1_9 rfl rfl (lvh_sz hl) (by decide) (Kr := []) rfl (Nat.le_of_ble_eq_true rfl) dJ1_charAt_3b067_3 (fun H locs hw => ?_)
  refine r_load3 C hl (kx := 0) rfl rfl dJ1_charAt_3b067_6 ?_
  refine r_iload_n C hl (kx := 1) rfl rfl dJ1_charAt_3b067_7 ?_
  refine va_tb C.1 C.2.1 (hO.1.1 k9 h9).2.2.2 hw.2 (in_nrm hi) (v := .int (jI ((bytS.getD k9 []).getD (nrm i).toNat 0).toInt)) (by rw [jI_to]; rfl) dJ1_charAt_3b067_8 ?_
  refine r_sipush C (by decide) dJ1_charAt_3b067_9 ?_
  refine r_iand C dJ1_charAt_3b067_12 ?_
  refine r_i2c C dJ1_charAt_3b067_13 ?_
  refine top_i (y := sch k9 (nrm i)) ?_ ?_
  · unfold jc jand; rw [jI_to, jI_to, q1]; exact q4.symm
  · exact r_xret C hw q2 dJ1_charAt_3b067_14
theorem c_schar (l : Launch) (D : Ds) (b : Nat) {k9 : Nat} (h9 : k9 < 3) {i : Int} (hi : 0 ≤ nrm i ∧ nrm i < (lenS.getD k9 0 : Nat)) {μ : Mem} : Ctr l D b yJ0_charAt_5068e cJ0_charAt_5068e 2 (some .char) 3 [(3, ((D.2.2.1 k9 : Nat) : Int)), (0, i)] μ (some (.int (jI (sch k9 (nrm i))))) μ := by
  obtain ⟨q1, q2, q3, q4⟩ := sch_ok k9 h9 (nrm i).toNat (by omega)
  rw [toNat_cast hi.1] at q2
  refine Ctr.of (by decide +kernel) (Nat.le_of_ble_eq_true rfl) ?_
  intro p e s m below meth c C hw ls hl
  have hO := C.2.2.2.2.2.2.2.2
  refine r_load3 C hl (kx := 0) rfl rfl dJ0_charAt_5068e_0 ?_
  refine r_callK C hw h9 (K := []) (c_latin l D b h9) mi_J0_isLatin1_aae02 in_J0_isLatin1_aae02 se_J0_isLatin1_aae02 kl_RJ0_492 rfl rfl (lvh_sz hl) (by decide) (Nat.le_of_ble_eq_true rfl) dJ0_charAt_5068e_1 (fun H locs hw => ?_)
  refine r_if_eq C (tgt := 16) (by decide) dJ0_charAt_5068e_4 (fun h => absurd h (by decide)) (fun _ => ?_)
  refine r_load3 C hl (kx := 0) rfl rfl dJ0_charAt_5068e_7 ?_
  refine vk_getf C.1 C.2.1 (hO.1.1 k9 h9).2.2.1 hw.2 C.2.2.2.1 (C.2.2.2.2.1 _ js_9) (fun _ h => h) dJ0_charAt_5068e_8 ?_
  refine r_iload_n C hl (kx := 1) rfl rfl dJ0_charAt_5068e_11 ?_
  refine r_callS3 C hw (K := [(3, ((D.2.2.2 k9 : Nat) : Int)), (0, i)]) (c_lchar l D b h9 hi) mi_J1_charAt_3b067 st_J1_charAt_3b067 kl_RJ0_495 rfl rfl (lvh_sz hl) (by decide) (Nat.le_of_ble_eq_true rfl) dJ0_charAt_5068e_12 (fun H locs hw => ?_)
  exact r_xret C hw q2 dJ0_charAt_5068e_15
/-- the signs: how a byte of them is found -/
theorem six_ok : ∀ j, j < 12 → ∀ c, c < 256 → ((bytS.getD 1 []).getD j 0 = jI (jb (c : Nat)) ↔ ((cdS 1).getD j 0 = c)) := by decide +kernel
def sixJ (c : Int) (j : Nat) : Int := sixF c ((cdS 1).drop j) j
theorem sixJ_end (c : Int) : sixJ c 12 = -1 := rfl
theorem sixJ_step (c : Int) {j : Nat} (h : j < 12) : sixJ c j = if (((cdS 1).getD j 0 : Nat) : Int) = c then (j : Int) else sixJ c (j + 1) := by
  unfold sixJ
  have hl : (cdS 1).length = 12 := by decide +kernel
  rw [List.drop_eq_getElem_cons (by rw [hl]; exact h), sixF]
  have : (cdS 1).getD j 0 = (cdS 1)[j]'(by rw [hl]; exact h) := by
    rw [List.getD_eq_getElem?_getD, List.getElem?_eq_getElem (by rw [hl]; exact h)]; rfl
  rw [this]
  rfl
theorem w_ixc {p : Program} {l : Launch} {e : Env} {s : State} {m : MethodId} {args : Array Value} {below : List Frame} {meth : Method} {c : Code} {D : Ds} {b : Nat} {μ : Mem} (C : Cx p s m args meth c D b cJ1_indexOfChar_4cfef 6 RJ1 (some .int)) {ch : Int} (hc : 0 ≤ nrm ch ∧ nrm ch < 256) {x2 : Int} : ∀ (n j : Nat) (H : Heap) (locs : List Loc) (ls : Array Slot), j + n = 12 → Hw D b μ s.heap H locs → lvh b ls 6 [(5, 0, (j : Int)), (4, 0, jb ch), (0, 3, ((D.2.2.2 1 : Nat) : Int)), (1, 0, ch), (2, 0, x2), (3, 0, 12)] → W p l e (rm 0) s m args below meth c H locs 0 0 (QM below args s D b (some (.int (jI (sixJ (nrm ch) j)))) μ) (F0 m 7 ls []) := by
  have hO := C.2.2.2.2.2.2.2.2
  intro n
  induction n with
  | zero =>
    intro j H locs ls hj hw hl
    have hj : j = 12 := by omega
    subst hj
    refine r_iload C hl (kx := 0) rfl dJ1_indexOfChar_4cfef_7 ?_
    refine r_iload_n C hl (kx := 5) rfl rfl dJ1_indexOfChar_4cfef_9 ?_
    refine r_icmp_ge C (tgt := 31) (by decide) dJ1_indexOfChar_4cfef_10 (fun _ => ?_) (fun h => absurd (Int.le_refl _) h)
    refine r_iconst C dJ1_indexOfChar_4cfef_31 ?_
    exact r_iret C hw rfl dJ1_indexOfChar_4cfef_32
  | succ n ih =>
    intro j H locs ls hj hw hl
    have hj12 : j < 12 := by omega
    have hnj : nrm (j : Int) = j := nrm_id (by omega) (by omega)
    refine r_iload C hl (kx := 0) rfl dJ1_indexOfChar_4cfef_7 ?_
    refine r_iload_n C hl (kx := 5) rfl rfl dJ1_indexOfChar_4cfef_9 ?_
    refine r_icmp_ge C (tgt := 31) (by decide) dJ1_indexOfChar_4cfef_10 (fun h => absurd h (by rw [hnj, nrm_id (z := 12) (by decide) (by decide)]; omega)) (fun _ => ?_)
    refine r_load3 C hl (kx := 2) rfl rfl dJ1_indexOfChar_4cfef_13 ?_
    refine r_iload C hl (kx := 0) rfl dJ1_indexOfChar_4cfef_14 ?_
    have hlen : lenS.getD 1 0 = 12 := by decide +kernel
    refine va_tb C.1 C.2.1 (hO.1.1 1 (by decide)).2.2.2 hw.2 (in_nrm (by rw [hnj, hlen]; omega)) (v := .int (jI ((bytS.getD 1 []).getD j 0).toInt)) (by rw [jI_to, show (jI (j : Int)).toNatClampNeg = j from by show (jI (j : Int)).toInt.toNat = j; have : (jI (j : Int)).toInt = j := hnj; rw [this]; rfl]) dJ1_indexOfChar_4cfef_16 ?_
    refine r_iload C hl (kx := 1) rfl dJ1_indexOfChar_4cfef_17 ?_
    have hk := six_ok j hj12 (nrm ch).toNat (by omega)
    rw [toNat_cast hc.1] at hk
    have hjb : jb (nrm ch) = jb ch := by unfold jb; rw [jI_nrm]
    rw [hjb] at hk
    rw [sixJ_step _ hj12]
    refine r_icmp_ne C (tgt := 25) (by decide) dJ1_indexOfChar_4cfef_19 (fun h => ?_) (fun h => ?_)
    · have h2 : ¬ (((cdS 1).getD j 0 : Nat) : Int) = nrm ch := fun q => h (jI_inj.mp (by rw [jI_to]; exact hk.mpr (by omega)))
      rw [if_neg h2]
      refine r_iinc C hl (kx := 0) rfl (by decide) (L' := [(5, 0, ((j : Int) + 1)), (4, 0, jb ch), (0, 3, ((D.2.2.2 1 : Nat) : Int)), (1, 0, ch), (2, 0, x2), (3, 0, 12)]) rfl dJ1_indexOfChar_4cfef_25 (fun ls hl => ?_)
      refine r_goto C (tgt := 7) (by decide) dJ1_indexOfChar_4cfef_28 ?_
      exact ih (j + 1) _ _ _ (by omega) hw hl
    · have h2 : (((cdS 1).getD j 0 : Nat) : Int) = nrm ch := by
        have := hk.mp (by have := jI_inj.mpr h; rw [jI_to] at this; exact this)
        omega
      rw [if_pos h2]
      refine r_iload C hl (kx := 0) rfl dJ1_indexOfChar_4cfef_22 ?_
      exact r_iret C hw rfl dJ1_indexOfChar_4cfef_24
theorem c_ixc (l : Launch) (D : Ds) (b : Nat) {ch : Int} (hc : 0 ≤ nrm ch ∧ nrm ch < 256) {μ : Mem} : Ctr l D b yJ1_indexOfChar_4cfef cJ1_indexOfChar_4cfef 6 (some .int) 0 [(3, ((D.2.2.2 1 : Nat) : Int)), (0, ch), (0, 0), (0, 12)] μ (some (.int (jI (six 1 (nrm ch))))) μ := by
  refine Ctr.of (by decide +kernel) (Nat.le_of_ble_eq_true rfl) ?_
  intro p e s m below meth c C hw ls hl
  refine r_iload_n C hl (kx := 1) rfl rfl dJ1_indexOfChar_4cfef_0 ?_
  refine r_i2b C dJ1_indexOfChar_4cfef_1 ?_
  refine r_istore C hl (by decide) (L' := [(4, 0, jb ch), (0, 3, ((D.2.2.2 1 : Nat) : Int)), (1, 0, ch), (2, 0, 0), (3, 0, 12)]) rfl dJ1_indexOfChar_4cfef_2 (fun ls hl => ?_)
  refine r_iload_n C hl (kx := 3) rfl rfl dJ1_indexOfChar_4cfef_4 ?_
  refine r_istore C hl (by decide) (L' := [(5, 0, 0), (4, 0, jb ch), (0, 3, ((D.2.2.2 1 : Nat) : Int)), (1, 0, ch), (2, 0, 0), (3, 0, 12)]) rfl dJ1_indexOfChar_4cfef_5 (fun ls hl => ?_)
  exact w_ixc C hc 12 0 _ _ _ rfl hw hl
def jmx (x y : Int) : Int := if nrm x < nrm y then y else x
def jmn (x y : Int) : Int := if nrm y < nrm x then y else x
theorem c_lindex (l : Launch) (D : Ds) (b : Nat) {ch : Int} (hc : 0 ≤ nrm ch ∧ nrm ch < 256) {μ : Mem} : Ctr l D b yJ1_indexOf_4cfef cJ1_indexOf_4cfef 4 (some .int) 1 [(3, ((D.2.2.2 1 : Nat) : Int)), (0, ch), (0, 0), (0, 12)] μ (some (.int (jI (six 1 (nrm ch))))) μ := by
  refine Ctr.of (by decide +kernel) (Nat.le_of_ble_eq_true rfl) ?_
  intro p e s m below meth c C hw ls hl
  have hO := C.2.2.2.2.2.2.2.2
  have hlen : lenS.getD 1 0 = 12 := by decide +kernel
  refine r_iload_n C hl (kx := 1) rfl rfl dJ1_indexOf_4cfef_0 ?_
  refine r_callSv C hw (K := [(0, ch)]) (c_J1_canEncode_9a6ad l D b (r := 1) (μ' := μ) (by unfold f_J1_canEncode_9a6ad; rw [if_neg (by omega), if_neg (by rw [nrm_id (z := 255) (by decide) (by decide)]; omega)])) mi_J1_canEncode_9a6ad st_J1_canEncode_9a6ad kl_RJ1_88 rfl rfl (lvh_sz hl) (by decide) (Kr := []) rfl (Nat.le_of_ble_eq_true rfl) dJ1_indexOf_4cfef_1 (fun H locs hw => ?_)
  refine r_if_ne C (tgt := 9) (by decide) dJ1_indexOf_4cfef_4 (fun _ => ?_) (fun h => absurd h (by decide))
  refine r_iload_n C hl (kx := 2) rfl rfl dJ1_indexOf_4cfef_9 ?_
  refine r_iconst C dJ1_indexOf_4cfef_10 ?_
  refine r_callSv C hw (K := [(0, 0), (0, 0)]) (c_J9_max_7cf53 l D b (x0 := 0) (x1 := 0) (r := 0) (μ' := μ) rfl) mi_J9_max_7cf53 st_J9_max_7cf53 kl_RJ1_92 rfl rfl (lvh_sz hl) (by decide) (Kr := []) rfl (Nat.le_of_ble_eq_true rfl) dJ1_indexOf_4cfef_11 (fun H locs hw => ?_)
  refine r_istore_n C hl (by decide) (L' := [(2, 0, 0), (0, 3, ((D.2.2.2 1 : Nat) : Int)), (1, 0, ch), (3, 0, 12)]) rfl rfl dJ1_indexOf_4cfef_14 (fun ls hl => ?_)
  refine r_iload_n C hl (kx := 3) rfl rfl dJ1_indexOf_4cfef_15 ?_
  refine r_load3 C hl (kx := 1) rfl rfl dJ1_indexOf_4cfef_16 ?_
  refine va_tlen C.1 C.2.1 (hO.1.1 1 (by decide)).2.2.2 hw.2 (v := jI 12) (by rw [hlen]; rfl) dJ1_indexOf_4cfef_17 ?_
  refine r_callSv C hw (K := [(0, 12), (0, 12)]) (c_J9_min_7cf53 l D b (x0 := 12) (x1 := 12) (r := 12) (μ' := μ) rfl) mi_J9_min_7cf53 st_J9_min_7cf53 kl_RJ1_38 rfl rfl (lvh_sz hl) (by decide) (Kr := []) rfl (Nat.le_of_ble_eq_true rfl) dJ1_indexOf_4cfef_18 (fun H locs hw => ?_)
  refine r_istore_n C hl (by decide) (L' := [(3, 0, 12), (2, 0, 0), (0, 3, ((D.2.2.2 1 : Nat) : Int)), (1, 0, ch)]) rfl rfl dJ1_indexOf_4cfef_21 (fun ls hl => ?_)
  refine r_iload_n C hl (kx := 1) rfl rfl dJ1_indexOf_4cfef_22 ?_
  refine r_iload_n C hl (kx := 0) rfl rfl dJ1_indexOf_4cfef_23 ?_
  refine r_icmp_lt C (tgt := 29) (by decide) dJ1_indexOf_4cfef_24 (fun _ => ?_) (fun h => absurd (by decide) h)
  refine r_load3 C hl (kx := 2) rfl rfl dJ1_indexOf_4cfef_29 ?_
  refine r_iload_n C hl (kx := 3) rfl rfl dJ1_indexOf_4cfef_30 ?_
  refine r_iload_n C hl (kx := 1) rfl rfl dJ1_indexOf_4cfef_31 ?_
  refine r_iload_n C hl (kx := 0) rfl rfl dJ1_indexOf_4cfef_32 ?_
  refine r_callS3 C hw (K := [(3, ((D.2.2.2 1 : Nat) : Int)), (0, ch), (0, 0), (0, 12)]) (c_ixc l D b hc) mi_J1_indexOfChar_4cfef st_J1_indexOfChar_4cfef kl_RJ1_95 rfl rfl (lvh_sz hl) (by decide) (Nat.le_of_ble_eq_true rfl) dJ1_indexOf_4cfef_33 (fun H locs hw => ?_)
  exact r_iret C hw rfl dJ1_indexOf_4cfef_36
theorem c_sindex2 (l : Launch) (D : Ds) (b : Nat) {ch : Int} (hc : 0 ≤ nrm ch ∧ nrm ch < 256) {μ : Mem} : Ctr l D b yJ0_indexOf_7cf53 cJ0_indexOf_7cf53 3 (some .int) 2 [(3, ((D.2.2.1 1 : Nat) : Int)), (0, ch), (0, 0)] μ (some (.int (jI (six 1 (nrm ch))))) μ := by
  refine Ctr.of (by decide +kernel) (Nat.le_of_ble_eq_true rfl) ?_
  intro p e s m below meth c C hw ls hl
  have hO := C.2.2.2.2.2.2.2.2
  have hlen : lenS.getD 1 0 = 12 := by decide +kernel
  refine r_load3 C hl (kx := 0) rfl rfl dJ0_indexOf_7cf53_0 ?_
  refine r_callK C hw (k9 := 1) (by decide) (K := []) (c_latin l D b (by decide)) mi_J0_isLatin1_aae02 in_J0_isLatin1_aae02 se_J0_isLatin1_aae02 kl_RJ0_492 rfl rfl (lvh_sz hl) (by decide) (Nat.le_of_ble_eq_true rfl) dJ0_indexOf_7cf53_1 (fun H locs hw => ?_)
  refine r_if_eq C (tgt := 23) (by decide) dJ0_indexOf_7cf53_4 (fun h => absurd h (by decide)) (fun _ => ?_)
  refine r_load3 C hl (kx := 0) rfl rfl dJ0_indexOf_7cf53_7 ?_
  refine vk_getf C.1 C.2.1 (hO.1.1 1 (by decide)).2.2.1 hw.2 C.2.2.2.1 (C.2.2.2.2.1 _ js_9) (fun _ h => h) dJ0_indexOf_7cf53_8 ?_
  refine r_iload_n C hl (kx := 1) rfl rfl dJ0_indexOf_7cf53_11 ?_
  refine r_iload_n C hl (kx := 2) rfl rfl dJ0_indexOf_7cf53_12 ?_
  refine r_load3 C hl (kx := 0) rfl rfl dJ0_indexOf_7cf53_13 ?_
  refine r_callK C hw (k9 := 1) (by decide) (K := []) (c_slen l D b (by decide) (n := 12) hlen) mi_J0_length_8abf5 in_J0_length_8abf5 se_J0_length_8abf5 kl_RJ0_505 rfl rfl (lvh_sz hl) (by decide) (Nat.le_of_ble_eq_true rfl) dJ0_indexOf_7cf53_14 (fun H locs hw => ?_)
  refine r_callS3 C hw (K := [(3, ((D.2.2.2 1 : Nat) : Int)), (0, ch), (0, 0), (0, 12)]) (c_lindex l D b hc) mi_J1_indexOf_4cfef st_J1_indexOf_4cfef kl_RJ0_637 rfl rfl (lvh_sz hl) (by decide) (Nat.le_of_ble_eq_true rfl) dJ0_indexOf_7cf53_17 (fun H locs hw => ?_)
  refine r_goto C (tgt := 36) (by decide) dJ0_indexOf_7cf53_20 ?_
  exact r_iret C hw rfl dJ0_indexOf_7cf53_36
theorem c_sindex (l : Launch) (D : Ds) (b : Nat) {ch : Int} (hc : 0 ≤ nrm ch ∧ nrm ch < 256) {μ : Mem} : Ctr l D b yJ0_indexOf_0f7a4 cJ0_indexOf_0f7a4 2 (some .int) 3 [(3, ((D.2.2.1 1 : Nat) : Int)), (0, ch)] μ (some (.int (jI (six 1 (nrm ch))))) μ := by
  refine Ctr.of (by decide +kernel) (Nat.le_of_ble_eq_true rfl) ?_
  intro p e s m below meth c C hw ls hl
  refine r_load3 C hl (kx := 0) rfl rfl dJ0_indexOf_0f7a4_0 ?_
  refine r_iload_n C hl (kx := 1) rfl rfl dJ0_indexOf_0f7a4_1 ?_
  refine r_iconst C dJ0_indexOf_0f7a4_2 ?_
  refine r_callK C hw (k9 := 1) (by decide) (K := [(0, ch), (0, 0)]) (c_sindex2 l D b hc) mi_J0_indexOf_7cf53 in_J0_indexOf_7cf53 se_J0_indexOf_7cf53 kl_RJ0_633 rfl rfl (lvh_sz hl) (by decide) (Nat.le_of_ble_eq_true rfl) dJ0_indexOf_0f7a4_3 (fun H locs hw => ?_)
  exact r_iret C hw rfl dJ0_indexOf_0f7a4_6

theorem len_S0 : lenS.getD 0 0 = 107 := by decide +kernel
theorem len_S1 : lenS.getD 1 0 = 12 := by decide +kernel
theorem len_S2 : lenS.getD 2 0 = 108 := by decide +kernel
section STRROWS
variable {p : Program} {l : Launch} {e : Env} {R : Room} {s : State} {m : MethodId} {args : Array Value} {below : List Frame} {meth : Method} {c : Code} {H : Heap} {locs : List Loc} {cells slots : Nat} {Q : State → Prop}
variable {D : Ds} {cc : ByteArray} {nL : Nat} {own : String} {ret : Option FieldType} {pc : Nat} {ls : Array Slot} {rest : List Value} {b : Nat} {μ : Mem} {H0 : Heap}
theorem r_ldcS0_9 (C : Cx p s m args meth c D b cc nL RX9 ret) (hd : decode cc pc = .ok (.ldc 75, 2)) (k : W p l e R s m args below meth c H locs cells slots Q (F0 m (pc + 2) ls (.ref (D.2.2.1 0) :: rest))) : W p l e R s m args below meth c H locs cells slots Q (F0 m pc ls rest) := va_ldcS C.1 C.2.1 C.2.2.2.1 (C.2.2.2.2.2.2.2.2).2.1 hd k
theorem r_ldcS1_9 (C : Cx p s m args meth c D b cc nL RX9 ret) (hd : decode cc pc = .ok (.ldc 49, 2)) (k : W p l e R s m args below meth c H locs cells slots Q (F0 m (pc + 2) ls (.ref (D.2.2.1 1) :: rest))) : W p l e R s m args below meth c H locs cells slots Q (F0 m pc ls rest) := va_ldcS C.1 C.2.1 C.2.2.2.1 (C.2.2.2.2.2.2.2.2).2.2.1 hd k
theorem r_ldcS2_12 (C : Cx p s m args meth c D b cc nL RX12 ret) (hd : decode cc pc = .ok (.ldc 80, 2)) (k : W p l e R s m args below meth c H locs cells slots Q (F0 m (pc + 2) ls (.ref (D.2.2.1 2) :: rest))) : W p l e R s m args below meth c H locs cells slots Q (F0 m pc ls rest) := va_ldcS C.1 C.2.1 C.2.2.2.1 (C.2.2.2.2.2.2.2.2).2.2.2.1 hd k
theorem r_ldcS1_12 (C : Cx p s m args meth c D b cc nL RX12 ret) (hd : decode cc pc = .ok (.ldc 118, 2)) (k : W p l e R s m args below meth c H locs cells slots Q (F0 m (pc + 2) ls (.ref (D.2.2.1 1) :: rest))) : W p l e R s m args below meth c H locs cells slots Q (F0 m pc ls rest) := va_ldcS C.1 C.2.1 C.2.2.2.1 (C.2.2.2.2.2.2.2.2).2.2.2.2.1 hd k
theorem r_slen0 (C : Cx p s m args meth c D b cc nL own ret) (hw : Hw D b μ s.heap H locs) {idx : Nat} (hlk : Cond.methodLink own idx yJ0_length_8abf5 ∈ gT) (hz : ls.size = nL) (hR : 7 ≤ R.frames ∧ 280 ≤ R.locals) (hr : rest.length ≤ 4) (hd : decode cc pc = .ok (.invokevirtual idx, 3)) (k : ∀ (H : Heap) (locs : List Loc), Hw D b μ s.heap H locs → W p l e R s m args below meth c H locs 0 0 Q (F0 m (pc + 3) ls (.int (jI 107) :: rest))) : W p l e R s m args below meth c H locs 0 0 Q (F0 m pc ls (.ref (D.2.2.1 0) :: rest)) := r_callK C hw (k9 := 0) (by decide) (K := []) (c_slen l D b (by decide) len_S0) mi_J0_length_8abf5 in_J0_length_8abf5 se_J0_length_8abf5 hlk rfl rfl hz ⟨by omega, by omega⟩ hr hd k
theorem r_schar0 (C : Cx p s m args meth c D b cc nL own ret) (hw : Hw D b μ s.heap H locs) {i : Int} (hi : 0 ≤ nrm i ∧ nrm i < 107) {idx : Nat} (hlk : Cond.methodLink own idx yJ0_charAt_5068e ∈ gT) (hz : ls.size = nL) (hR : 7 ≤ R.frames ∧ 280 ≤ R.locals) (hr : rest.length ≤ 4) (hd : decode cc pc = .ok (.invokevirtual idx, 3)) (k : ∀ (H : Heap) (locs : List Loc), Hw D b μ s.heap H locs → W p l e R s m args below meth c H locs 0 0 Q (F0 m (pc + 3) ls (.int (jI (sch 0 (nrm i))) :: rest))) : W p l e R s m args below meth c H locs 0 0 Q (F0 m pc ls (.int (jI i) :: .ref (D.2.2.1 0) :: rest)) := r_callK C hw (k9 := 0) (by decide) (K := [(0, i)]) (c_schar l D b (by decide) (i := i) (by rw [len_S0]; exact hi)) mi_J0_charAt_5068e in_J0_charAt_5068e se_J0_charAt_5068e hlk rfl rfl hz ⟨by omega, by omega⟩ hr hd k
theorem r_slen1 (C : Cx p s m args meth c D b cc nL own ret) (hw : Hw D b μ s.heap H locs) {idx : Nat} (hlk : Cond.methodLink own idx yJ0_length_8abf5 ∈ gT) (hz : ls.size = nL) (hR : 7 ≤ R.frames ∧ 280 ≤ R.locals) (hr : rest.length ≤ 4) (hd : decode cc pc = .ok (.invokevirtual idx, 3)) (k : ∀ (H : Heap) (locs : List Loc), Hw D b μ s.heap H locs → W p l e R s m args below meth c H locs 0 0 Q (F0 m (pc + 3) ls (.int (jI 12) :: rest))) : W p l e R s m args below meth c H locs 0 0 Q (F0 m pc ls (.ref (D.2.2.1 1) :: rest)) := r_callK C hw (k9 := 1) (by decide) (K := []) (c_slen l D b (by decide) len_S1) mi_J0_length_8abf5 in_J0_length_8abf5 se_J0_length_8abf5 hlk rfl rfl hz ⟨by omega, by omega⟩ hr hd k
theorem r_schar1 (C : Cx p s m args meth c D b cc nL own ret) (hw : Hw D b μ s.heap H locs) {i : Int} (hi : 0 ≤ nrm i ∧ nrm i < 12) {idx : Nat} (hlk : Cond.methodLink own idx yJ0_charAt_5068e ∈ gT) (hz : ls.size = nL) (hR : 7 ≤ R.frames ∧ 280 ≤ R.locals) (hr : rest.length ≤ 4) (hd : decode cc pc = .ok (.invokevirtual idx, 3)) (k : ∀ (H : Heap) (locs : List Loc), Hw D b μ s.heap H locs → W p l e R s m args below meth c H locs 0 0 Q (F0 m (pc + 3) ls (.int (jI (sch 1 (nrm i))) :: rest))) : W p l e R s m args below meth c H locs 0 0 Q (F0 m pc ls (.int (jI i) :: .ref (D.2.2.1 1) :: rest)) := r_callK C hw (k9 := 1) (by decide) (K := [(0, i)]) (c_schar l D b (by decide) (i := i) (by rw [len_S1]; exact hi)) mi_J0_charAt_5068e in_J0_charAt_5068e se_J0_charAt_5068e hlk rfl rfl hz ⟨by omega, by omega⟩ hr hd k
theorem r_slen2 (C : Cx p s m args meth c D b cc nL own ret) (hw : Hw D b μ s.heap H locs) {idx : Nat} (hlk : Cond.methodLink own idx yJ0_length_8abf5 ∈ gT) (hz : ls.size = nL) (hR : 7 ≤ R.frames ∧ 280 ≤ R.locals) (hr : rest.length ≤ 4) (hd : decode cc pc = .ok (.invokevirtual idx, 3)) (k : ∀ (H : Heap) (locs : List Loc), Hw D b μ s.heap H locs → W p l e R s m args below meth c H locs 0 0 Q (F0 m (pc + 3) ls (.int (jI 108) :: rest))) : W p l e R s m args below meth c H locs 0 0 Q (F0 m pc ls (.ref (D.2.2.1 2) :: rest)) := r_callK C hw (k9 := 2) (by decide) (K := []) (c_slen l D b (by decide) len_S2) mi_J0_length_8abf5 in_J0_length_8abf5 se_J0_length_8abf5 hlk rfl rfl hz ⟨by omega, by omega⟩ hr hd k
theorem r_schar2 (C : Cx p s m args meth c D b cc nL own ret) (hw : Hw D b μ s.heap H locs) {i : Int} (hi : 0 ≤ nrm i ∧ nrm i < 108) {idx : Nat} (hlk : Cond.methodLink own idx yJ0_charAt_5068e ∈ gT) (hz : ls.size = nL) (hR : 7 ≤ R.frames ∧ 280 ≤ R.locals) (hr : rest.length ≤ 4) (hd : decode cc pc = .ok (.invokevirtual idx, 3)) (k : ∀ (H : Heap) (locs : List Loc), Hw D b μ s.heap H locs → W p l e R s m args below meth c H locs 0 0 Q (F0 m (pc + 3) ls (.int (jI (sch 2 (nrm i))) :: rest))) : W p l e R s m args below meth c H locs 0 0 Q (F0 m pc ls (.int (jI i) :: .ref (D.2.2.1 2) :: rest)) := r_callK C hw (k9 := 2) (by decide) (K := [(0, i)]) (c_schar l D b (by decide) (i := i) (by rw [len_S2]; exact hi)) mi_J0_charAt_5068e in_J0_charAt_5068e se_J0_charAt_5068e hlk rfl rfl hz ⟨by omega, by omega⟩ hr hd k
theorem r_sindex1 (C : Cx p s m args meth c D b cc nL own ret) (hw : Hw D b μ s.heap H locs) {i : Int} (hi : 0 ≤ nrm i ∧ nrm i < 256) {idx : Nat} (hlk : Cond.methodLink own idx yJ0_indexOf_0f7a4 ∈ gT) (hz : ls.size = nL) (hR : 7 ≤ R.frames ∧ 280 ≤ R.locals) (hr : rest.length ≤ 4) (hd : decode cc pc = .ok (.invokevirtual idx, 3)) (k : ∀ (H : Heap) (locs : List Loc), Hw D b μ s.heap H locs → W p l e R s m args below meth c H locs 0 0 Q (F0 m (pc + 3) ls (.int (jI (six 1 (nrm i))) :: rest))) : W p l e R s m args below meth c H locs 0 0 Q (F0 m pc ls (.int (jI i) :: .ref (D.2.2.1 1) :: rest)) := r_callK C hw (k9 := 1) (by decide) (K := [(0, i)]) (c_sindex l D b hi) mi_J0_indexOf_0f7a4 in_J0_indexOf_0f7a4 se_J0_indexOf_0f7a4 hlk rfl rfl hz ⟨by omega, by omega⟩ hr hd k
end STRROWS
