theorem kl_L_13 : Cond.methodLink R_law 13 yX11_feed ∈ gT := gT_in (inT2 (List.mem_of_getElem? (i := 175) rfl)) rfl
theorem kl_L_17 : Cond.methodLink R_law 17 yX12_feed ∈ gT := gT_in (inT6 (List.mem_of_getElem? (i := 126) rfl)) rfl
theorem kl_L_18 : Cond.methodLink R_law 18 yX11_land ∈ gT := gT_in (inT2 (List.mem_of_getElem? (i := 183) rfl)) rfl
theorem kl_L_22 : Cond.methodLink R_law 22 yX12_land ∈ gT := gT_in (inT6 (List.mem_of_getElem? (i := 130) rfl)) rfl
theorem kl_L_23 : Cond.methodLink R_law 23 yX11_fault ∈ gT := gT_in (inT3 (List.mem_of_getElem? (i := 228) rfl)) rfl
theorem kl_L_26 : Cond.methodLink R_law 26 yX12_fault ∈ gT := gT_in (inT7 (List.mem_of_getElem? (i := 7) rfl)) rfl
theorem kl_L_27 : Cond.methodLink R_law 27 yX11_lane ∈ gT := gT_in (inT3 (List.mem_of_getElem? (i := 232) rfl)) rfl
theorem kl_L_31 : Cond.methodLink R_law 31 yX12_lane ∈ gT := gT_in (inT7 (List.mem_of_getElem? (i := 11) rfl)) rfl
theorem kl_L_32 : Cond.methodLink R_law 32 yX11_why ∈ gT := gT_in (inT4 (List.mem_of_getElem? (i := 48) rfl)) rfl
theorem kl_L_35 : Cond.methodLink R_law 35 yX12_why ∈ gT := gT_in (inT7 (List.mem_of_getElem? (i := 39) rfl)) rfl
theorem kl_L_36 : Cond.methodLink R_law 36 yX11_worn ∈ gT := gT_in (inT4 (List.mem_of_getElem? (i := 60) rfl)) rfl
theorem kl_L_39 : Cond.methodLink R_law 39 yX12_worn ∈ gT := gT_in (inT7 (List.mem_of_getElem? (i := 51) rfl)) rfl
theorem kl_L_40 : Cond.methodLink R_law 40 yX11_fillings ∈ gT := gT_in (inT4 (List.mem_of_getElem? (i := 70) rfl)) rfl
theorem kl_L_43 : Cond.methodLink R_law 43 yX12_fillings ∈ gT := gT_in (inT7 (List.mem_of_getElem? (i := 59) rfl)) rfl
theorem kl_L_44 : Cond.methodLink R_law 44 yX11_go ∈ gT := gT_in (inT4 (List.mem_of_getElem? (i := 82) rfl)) rfl
theorem kl_L_47 : Cond.methodLink R_law 47 yX12_go ∈ gT := gT_in (inT7 (List.mem_of_getElem? (i := 67) rfl)) rfl
theorem kl_L_48 : Cond.methodLink R_law 48 yX11_fill ∈ gT := gT_in (inT4 (List.mem_of_getElem? (i := 124) rfl)) rfl
theorem kl_L_51 : Cond.methodLink R_law 51 yX12_fill ∈ gT := gT_in (inT7 (List.mem_of_getElem? (i := 83) rfl)) rfl
theorem kl_L_52 : Cond.methodLink R_law 52 yX11_dig ∈ gT := gT_in (inT4 (List.mem_of_getElem? (i := 129) rfl)) rfl
theorem kl_L_55 : Cond.methodLink R_law 55 yX12_dig ∈ gT := gT_in (inT7 (List.mem_of_getElem? (i := 95) rfl)) rfl
theorem kl_L_56 : Cond.methodLink R_law 56 yX11_turn ∈ gT := gT_in (inT4 (List.mem_of_getElem? (i := 133) rfl)) rfl
theorem kl_L_59 : Cond.methodLink R_law 59 yX12_turn ∈ gT := gT_in (inT7 (List.mem_of_getElem? (i := 99) rfl)) rfl
theorem kl_L_60 : Cond.methodLink R_law 60 yX11_seasons ∈ gT := gT_in (inT4 (List.mem_of_getElem? (i := 137) rfl)) rfl
theorem kl_L_63 : Cond.methodLink R_law 63 yX12_seasons ∈ gT := gT_in (inT7 (List.mem_of_getElem? (i := 107) rfl)) rfl
theorem kl_L_64 : Cond.methodLink R_law 64 yX11_rain ∈ gT := gT_in (inT4 (List.mem_of_getElem? (i := 143) rfl)) rfl
theorem kl_L_67 : Cond.methodLink R_law 67 yX12_rain ∈ gT := gT_in (inT7 (List.mem_of_getElem? (i := 116) rfl)) rfl
theorem kl_L_68 : Cond.methodLink R_law 68 yX11_undo ∈ gT := gT_in (inT4 (List.mem_of_getElem? (i := 147) rfl)) rfl
theorem kl_L_71 : Cond.methodLink R_law 71 yX12_undo ∈ gT := gT_in (inT7 (List.mem_of_getElem? (i := 121) rfl)) rfl
theorem kl_L_72 : Cond.methodLink R_law 72 yX11_judge ∈ gT := gT_in (inT4 (List.mem_of_getElem? (i := 162) rfl)) rfl
theorem kl_L_75 : Cond.methodLink R_law 75 yX12_judge ∈ gT := gT_in (inT7 (List.mem_of_getElem? (i := 126) rfl)) rfl
theorem kl_L_76 : Cond.methodLink R_law 76 yX11_perform ∈ gT := gT_in (inT4 (List.mem_of_getElem? (i := 178) rfl)) rfl
theorem kl_L_79 : Cond.methodLink R_law 79 yX12_perform ∈ gT := gT_in (inT7 (List.mem_of_getElem? (i := 162) rfl)) rfl
theorem kl_L_80 : Cond.methodLink R_law 80 yX11_year ∈ gT := gT_in (inT4 (List.mem_of_getElem? (i := 182) rfl)) rfl
theorem kl_L_83 : Cond.methodLink R_law 83 yX12_year ∈ gT := gT_in (inT7 (List.mem_of_getElem? (i := 166) rfl)) rfl
theorem kl_L_84 : Cond.methodLink R_law 84 yX11_reach ∈ gT := gT_in (inT4 (List.mem_of_getElem? (i := 193) rfl)) rfl
theorem kl_L_88 : Cond.methodLink R_law 88 yX12_reach ∈ gT := gT_in (inT7 (List.mem_of_getElem? (i := 179) rfl)) rfl
theorem kl_L_89 : Cond.methodLink R_law 89 yX11_soonest ∈ gT := gT_in (inT4 (List.mem_of_getElem? (i := 205) rfl)) rfl
theorem kl_L_92 : Cond.methodLink R_law 92 yX12_soonest ∈ gT := gT_in (inT7 (List.mem_of_getElem? (i := 199) rfl)) rfl
theorem kl_L_93 : Cond.methodLink R_law 93 yX11_rows ∈ gT := gT_in (inT4 (List.mem_of_getElem? (i := 236) rfl)) rfl
theorem kl_L_96 : Cond.methodLink R_law 96 yX12_rows ∈ gT := gT_in (inT7 (List.mem_of_getElem? (i := 210) rfl)) rfl
theorem kl_L_97 : Cond.methodLink R_law 97 yX11_way ∈ gT := gT_in (inT5 (List.mem_of_getElem? (i := 26) rfl)) rfl
theorem kl_L_100 : Cond.methodLink R_law 100 yX12_way ∈ gT := gT_in (inT7 (List.mem_of_getElem? (i := 219) rfl)) rfl
theorem kl_L_101 : Cond.methodLink R_law 101 yX11_toAndFro ∈ gT := gT_in (inT5 (List.mem_of_getElem? (i := 39) rfl)) rfl
theorem kl_L_104 : Cond.methodLink R_law 104 yX12_toAndFro ∈ gT := gT_in (inT7 (List.mem_of_getElem? (i := 227) rfl)) rfl
theorem kl_L_105 : Cond.methodLink R_law 105 yX11_cheapest ∈ gT := gT_in (inT5 (List.mem_of_getElem? (i := 44) rfl)) rfl
theorem kl_L_108 : Cond.methodLink R_law 108 yX12_cheapest ∈ gT := gT_in (inT7 (List.mem_of_getElem? (i := 231) rfl)) rfl
theorem kl_L_109 : Cond.methodLink R_law 109 yX11_cheapBy ∈ gT := gT_in (inT5 (List.mem_of_getElem? (i := 64) rfl)) rfl
theorem kl_L_112 : Cond.methodLink R_law 112 yX12_cheapBy ∈ gT := gT_in (inT8 (List.mem_of_getElem? (i := 7) rfl)) rfl
theorem kl_L_113 : Cond.methodLink R_law 113 yX11_joins ∈ gT := gT_in (inT5 (List.mem_of_getElem? (i := 68) rfl)) rfl
theorem kl_L_116 : Cond.methodLink R_law 116 yX12_joins ∈ gT := gT_in (inT8 (List.mem_of_getElem? (i := 15) rfl)) rfl
theorem kl_L_117 : Cond.methodLink R_law 117 yX11_shuts ∈ gT := gT_in (inT5 (List.mem_of_getElem? (i := 83) rfl)) rfl
theorem kl_L_120 : Cond.methodLink R_law 120 yX12_shuts ∈ gT := gT_in (inT8 (List.mem_of_getElem? (i := 23) rfl)) rfl
theorem kl_L_121 : Cond.methodLink R_law 121 yX11_turning ∈ gT := gT_in (inT5 (List.mem_of_getElem? (i := 91) rfl)) rfl
theorem kl_L_124 : Cond.methodLink R_law 124 yX12_turning ∈ gT := gT_in (inT8 (List.mem_of_getElem? (i := 27) rfl)) rfl
theorem kl_L_125 : Cond.methodLink R_law 125 yX11_when ∈ gT := gT_in (inT5 (List.mem_of_getElem? (i := 105) rfl)) rfl
theorem kl_L_128 : Cond.methodLink R_law 128 yX12_when ∈ gT := gT_in (inT8 (List.mem_of_getElem? (i := 35) rfl)) rfl
theorem kl_L_129 : Cond.methodLink R_law 129 yX11_starts ∈ gT := gT_in (inT5 (List.mem_of_getElem? (i := 109) rfl)) rfl
theorem kl_L_132 : Cond.methodLink R_law 132 yX12_starts ∈ gT := gT_in (inT8 (List.mem_of_getElem? (i := 39) rfl)) rfl
theorem kl_L_133 : Cond.methodLink R_law 133 yX11_rains ∈ gT := gT_in (inT5 (List.mem_of_getElem? (i := 117) rfl)) rfl
theorem kl_L_136 : Cond.methodLink R_law 136 yX12_rains ∈ gT := gT_in (inT8 (List.mem_of_getElem? (i := 43) rfl)) rfl
theorem kl_L_137 : Cond.methodLink R_law 137 yX11_attempt ∈ gT := gT_in (inT5 (List.mem_of_getElem? (i := 135) rfl)) rfl
theorem kl_L_140 : Cond.methodLink R_law 140 yX12_attempt ∈ gT := gT_in (inT8 (List.mem_of_getElem? (i := 56) rfl)) rfl
theorem kl_L_141 : Cond.methodLink R_law 141 yX11_wins ∈ gT := gT_in (inT5 (List.mem_of_getElem? (i := 144) rfl)) rfl
theorem kl_L_144 : Cond.methodLink R_law 144 yX12_wins ∈ gT := gT_in (inT8 (List.mem_of_getElem? (i := 64) rfl)) rfl
theorem kl_L_145 : Cond.methodLink R_law 145 yX11_best ∈ gT := gT_in (inT5 (List.mem_of_getElem? (i := 162) rfl)) rfl
theorem kl_L_148 : Cond.methodLink R_law 148 yX12_best ∈ gT := gT_in (inT8 (List.mem_of_getElem? (i := 80) rfl)) rfl
theorem kl_L_149 : Cond.methodLink R_law 149 yX11_chance ∈ gT := gT_in (inT5 (List.mem_of_getElem? (i := 166) rfl)) rfl
theorem kl_L_153 : Cond.methodLink R_law 153 yX12_chance ∈ gT := gT_in (inT8 (List.mem_of_getElem? (i := 84) rfl)) rfl
theorem kl_L_154 : Cond.methodLink R_law 154 yX11_bestBy ∈ gT := gT_in (inT5 (List.mem_of_getElem? (i := 201) rfl)) rfl
theorem kl_L_157 : Cond.methodLink R_law 157 yX12_bestBy ∈ gT := gT_in (inT8 (List.mem_of_getElem? (i := 103) rfl)) rfl
theorem kl_L_158 : Cond.methodLink R_law 158 yX11_numbers ∈ gT := gT_in (inT5 (List.mem_of_getElem? (i := 213) rfl)) rfl
theorem kl_L_161 : Cond.methodLink R_law 161 yX12_numbers ∈ gT := gT_in (inT8 (List.mem_of_getElem? (i := 107) rfl)) rfl
theorem kl_L_164 : Cond.methodLink R_law 164 yX11_write ∈ gT := gT_in (inT5 (List.mem_of_getElem? (i := 224) rfl)) rfl
theorem kl_L_168 : Cond.methodLink R_law 168 yX12_write ∈ gT := gT_in (inT8 (List.mem_of_getElem? (i := 111) rfl)) rfl
theorem kl_L_169 : Cond.methodLink R_law 169 yX11_lists ∈ gT := gT_in (inT5 (List.mem_of_getElem? (i := 239) rfl)) rfl
theorem kl_L_172 : Cond.methodLink R_law 172 yX12_lists ∈ gT := gT_in (inT8 (List.mem_of_getElem? (i := 119) rfl)) rfl
theorem kl_L_173 : Cond.methodLink R_law 173 yX11_image ∈ gT := gT_in (inT6 (List.mem_of_getElem? (i := 4) rfl)) rfl
theorem kl_L_176 : Cond.methodLink R_law 176 yX12_image ∈ gT := gT_in (inT8 (List.mem_of_getElem? (i := 123) rfl)) rfl
theorem kl_L_177 : Cond.methodLink R_law 177 yX11_restore ∈ gT := gT_in (inT6 (List.mem_of_getElem? (i := 12) rfl)) rfl
theorem kl_L_180 : Cond.methodLink R_law 180 yX12_restore ∈ gT := gT_in (inT8 (List.mem_of_getElem? (i := 127) rfl)) rfl
theorem kl_L_181 : Cond.methodLink R_law 181 yX11_count ∈ gT := gT_in (inT6 (List.mem_of_getElem? (i := 16) rfl)) rfl
theorem kl_L_184 : Cond.methodLink R_law 184 yX12_count ∈ gT := gT_in (inT8 (List.mem_of_getElem? (i := 131) rfl)) rfl
theorem kd_L_7 : Cond.classLink R_law 7 RX11 ∈ gT := gT_in (inT1 (List.mem_of_getElem? (i := 23) rfl)) rfl
theorem kd_L_10 : Cond.classLink R_law 10 RX12 ∈ gT := gT_in (inT6 (List.mem_of_getElem? (i := 20) rfl)) rfl
theorem kl_L_9 : Cond.methodLink R_law 9 yX11_init ∈ gT := gT_in (inT1 (List.mem_of_getElem? (i := 25) rfl)) rfl
theorem kl_L_12 : Cond.methodLink R_law 12 yX12_init ∈ gT := gT_in (inT6 (List.mem_of_getElem? (i := 22) rfl)) rfl
def sx (xs : Nat → Int32) (i : Int) : Int := (xs i.toNat).toInt
section LAWROWS
variable {p : Program} {l : Launch} {e : Env} {R : Room} {s : State} {m : MethodId} {args : Array Value} {below : List Frame} {meth : Method} {c : Code} {H : Heap} {locs : List Loc} {cells slots : Nat} {Q : State → Prop}
variable {D : Ds} {cc : ByteArray} {nL : Nat} {own : String} {ret : Option FieldType} {pc : Nat} {ls : Array Slot} {rest : List Value} {b : Nat} {μ μ' : Mem}
variable {y : MethodName} {bytes : ByteArray} {maxL : Nat} {ret' : Option FieldType} {d' n idx : Nat}
theorem r_callL (C : Cx p s m args meth c D b cc nL own ret) (hw : Hw D b μ s.heap H locs) {o : Int} {K : Av} {st0 : List Value} {t N : Nat} {Cn : String} {T : u_T} {ty : Nat → FieldType} {v : Value} (hC : ClsOk t Cn T N ty) (ho : isK o t) (hM : Ctr l D b y bytes maxL ret' d' ((2, o) :: K) μ (some v) μ') (hm : Mi y bytes maxL ret' n) (hi : Cond.instanceMethod y ∈ gT) (hs : Cond.selects Cn y y ∈ gT) (hlk : Cond.methodLink own idx y ∈ gT) (hst : (vls b K).reverse ++ rfv b o :: rest = st0) (hn : K.length = n) (hz : ls.size = nL) (hR : d' + 1 ≤ R.frames ∧ 8 + (maxL + 11) + 41 * d' ≤ R.locals) (hcs : cells ≤ R.cells ∧ slots ≤ R.slots) (hr : rest.length ≤ 4) (hd : decode cc pc = .ok (.invokevirtual idx, 3))
    (k : ∀ (H : Heap) (locs : List Loc), Hw D b μ' s.heap H locs → W p l e R s m args below meth c H locs cells slots Q (F0 m (pc + 3) ls (v :: rest))) : W p l e R s m args below meth c H locs cells slots Q (F0 m pc ls st0) := by
  have hM' : Met l y (Cond.code y bytes maxL ret' :: gT) (rm d') (PreC D b (rfv b o :: vls b K) μ) (Post D b (some v) μ') 0 0 (Ab b NC) := hM
  rw [rfv_ref ho.1] at hM' hst
  have hK := C.2.2.2.2.2.1
  have hrun : va_Run p l e R s m args below meth c H locs cells slots 0 0 (F0 m pc ls st0) rest (Post D b (some v) μ' (Value.ref (b + o.toNat) :: vls b K).toArray) (Ab b NC) := va_runV (As := vls b K) (rest := rest) (C := Cn) ⟨C.1, C.2.1, C.2.2.1, C.2.2.2.1, C.2.2.2.2.1⟩ hM' ⟨callB_row C hm hlk hR, C.2.2.2.2.1 _ hi, C.2.2.2.2.1 _ hs⟩ ⟨PreC.blind _ _ _ _, recvK hw hK hC ho, fun U hU hW => ⟨rfl, by rw [hU]; exact hw.1, va_K.moved hW.alike hK, C.2.2.2.2.2.2.2.2.moved hw.2 hU hW⟩⟩ rfl (by rw [List.length_map]; exact hn) hz hst.symm (lv_room (cat_len rest hr)) hd ⟨hcs.1, hcs.2⟩
  intro T hT X
  obtain ⟨v9, st₀, t9, T', L, h0, X', hL, e1, e2, ⟨hv, hG, hzz, hk⟩, st⟩ := hrun T hT X
  cases hv
  rw [h0] at hzz hk
  have hS := hw.2
  obtain ⟨t2, a1, b1⟩ := k T'.heap (locs ++ L) ⟨by rw [e1]; exact hG, ⟨Nat.le_trans hS.1 (by rw [e1]; exact hzz), fun q h1 h2 => by rw [e1, hk q (Nat.lt_of_lt_of_le h1 hS.1) h2]; exact hS.2.1 q h1 h2, fun q hq => by
      rcases List.mem_append.mp hq with h | h
      · exact hS.2.2 q h
      · exact hL q h⟩⟩ T' rfl X'
  exact ⟨t2, st t2 a1, b1⟩
theorem r_sld (C : Cx p s m args meth c D b cc nL own ret) (hw : Hw D b μ s.heap H locs) {b0 Ln : Nat} {xs : Nat → Int32} (hX : va_X b0 Ln xs s s.heap) (hbl : b0 < s.heap.size) (hbb : b0 < b) {i : Int} (hi : 0 ≤ nrm i ∧ nrm i < Ln) (hd : decode cc pc = .ok (.iaload, 1)) (k : W p l e R s m args below meth c H locs cells slots Q (F0 m (pc + 1) ls (.int (jI (sx xs (nrm i))) :: rest))) : W p l e R s m args below meth c H locs cells slots Q (F0 m pc ls (.int (jI i) :: .ref b0 :: rest)) := by
  refine va_sld C.1 C.2.1 hX hbl (fun h => absurd h.1 (Nat.not_le.mpr hbb)) hw.2 (in_nrm hi) hd ?_
  unfold sx at k
  rw [jI_to] at k
  exact k
theorem r_slenL (C : Cx p s m args meth c D b cc nL own ret) (hw : Hw D b μ s.heap H locs) {b0 Ln : Nat} {xs : Nat → Int32} (hX : va_X b0 Ln xs s s.heap) (hbl : b0 < s.heap.size) (hbb : b0 < b) (hd : decode cc pc = .ok (.arraylength, 1)) (k : W p l e R s m args below meth c H locs cells slots Q (F0 m (pc + 1) ls (.int (jI (Ln : Int)) :: rest))) : W p l e R s m args below meth c H locs cells slots Q (F0 m pc ls (.ref b0 :: rest)) := va_slen C.1 C.2.1 hX hbl (fun h => absurd h.1 (Nat.not_le.mpr hbb)) hw.2 hd k
end LAWROWS
theorem kwL1941 : Cond.constantLong R_law 162 (4294967295) ∈ gT := gT_in (inT8 (List.mem_of_getElem? (i := 135) rfl)) rfl
def f_law (Ln : Nat) (xs : Nat → Int32) : Nat → Int → Mem → Option (Int × Mem)
  | 0, _, _ => none
  | n + 1, x3, μ =>
  if nrm ((Ln : Int) - 6) < nrm x3 then (
    some (1, μ))
  else (
    gd (0 ≤ nrm x3 ∧ nrm x3 < (Ln : Int)) (
    if nrm (jand (sx xs (nrm x3)) 63) = 0 then (
      gd (0 ≤ nrm (x3 + 1) ∧ nrm (x3 + 1) < (Ln : Int)) (
      gd (0 ≤ nrm (x3 + 2) ∧ nrm (x3 + 2) < (Ln : Int)) (
      gd (0 ≤ nrm (x3 + 3) ∧ nrm (x3 + 3) < (Ln : Int)) (
      gd (0 ≤ nrm (x3 + 4) ∧ nrm (x3 + 4) < (Ln : Int)) (
      gd (0 ≤ nrm (x3 + 5) ∧ nrm (x3 + 5) < (Ln : Int)) (
      bn (f_X11_feed 0 (sx xs (nrm (x3 + 1))) (sx xs (nrm (x3 + 2))) (sx xs (nrm (x3 + 3))) (sx xs (nrm (x3 + 4))) (sx xs (nrm (x3 + 5))) μ) fun r9 μ8 => (
      bn (f_X12_feed 111 (sx xs (nrm (x3 + 1))) (sx xs (nrm (x3 + 2))) (sx xs (nrm (x3 + 3))) (sx xs (nrm (x3 + 4))) (sx xs (nrm (x3 + 5))) μ8) fun r12 μ11 => (
      if nrm r9 = nrm r12 then (
        f_law Ln xs n (x3 + 6) μ11)
      else (
        some (0, μ11))))))))))
    else (
    if nrm (jand (sx xs (nrm x3)) 63) = 1 then (
      gd (0 ≤ nrm (x3 + 1) ∧ nrm (x3 + 1) < (Ln : Int)) (
      bn (f_X11_land 0 (sx xs (nrm (x3 + 1))) μ) fun r17 μ16 => (
      bn (f_X12_land 111 (sx xs (nrm (x3 + 1))) μ16) fun r20 μ19 => (
      if nrm r17 = nrm r20 then (
        f_law Ln xs n (x3 + 6) μ19)
      else (
        some (0, μ19))))))
    else (
    if nrm (jand (sx xs (nrm x3)) 63) = 2 then (
      gd (0 ≤ nrm (x3 + 1) ∧ nrm (x3 + 1) < (Ln : Int)) (
      bn (f_X11_fault 0 (sx xs (nrm (x3 + 1))) μ) fun r25 μ24 => (
      bn (f_X12_fault 111 (sx xs (nrm (x3 + 1))) μ24) fun r28 μ27 => (
      if nrm r25 = nrm r28 then (
        f_law Ln xs n (x3 + 6) μ27)
      else (
        some (0, μ27))))))
    else (
    if nrm (jand (sx xs (nrm x3)) 63) = 3 then (
      gd (0 ≤ nrm (x3 + 1) ∧ nrm (x3 + 1) < (Ln : Int)) (
      gd (0 ≤ nrm (x3 + 2) ∧ nrm (x3 + 2) < (Ln : Int)) (
      bn (f_X11_lane 0 (sx xs (nrm (x3 + 1))) (sx xs (nrm (x3 + 2))) μ) fun r34 μ33 => (
      bn (f_X12_lane 111 (sx xs (nrm (x3 + 1))) (sx xs (nrm (x3 + 2))) μ33) fun r37 μ36 => (
      if nrm r34 = nrm r37 then (
        f_law Ln xs n (x3 + 6) μ36)
      else (
        some (0, μ36)))))))
    else (
    if nrm (jand (sx xs (nrm x3)) 63) = 4 then (
      gd (0 ≤ nrm (x3 + 1) ∧ nrm (x3 + 1) < (Ln : Int)) (
      bn (f_X11_why 0 (sx xs (nrm (x3 + 1))) μ) fun r42 μ41 => (
      bn (f_X12_why 111 (sx xs (nrm (x3 + 1))) μ41) fun r45 μ44 => (
      if nrm r42 = nrm r45 then (
        f_law Ln xs n (x3 + 6) μ44)
      else (
        some (0, μ44))))))
    else (
    if nrm (jand (sx xs (nrm x3)) 63) = 5 then (
      gd (0 ≤ nrm (x3 + 1) ∧ nrm (x3 + 1) < (Ln : Int)) (
      bn (f_X11_worn 0 (sx xs (nrm (x3 + 1))) μ) fun r50 μ49 => (
      bn (f_X12_worn 111 (sx xs (nrm (x3 + 1))) μ49) fun r53 μ52 => (
      if nrm r50 = nrm r53 then (
        f_law Ln xs n (x3 + 6) μ52)
      else (
        some (0, μ52))))))
    else (
    if nrm (jand (sx xs (nrm x3)) 63) = 6 then (
      gd (0 ≤ nrm (x3 + 1) ∧ nrm (x3 + 1) < (Ln : Int)) (
      bn (f_X11_fillings 0 (sx xs (nrm (x3 + 1))) μ) fun r58 μ57 => (
      bn (f_X12_fillings 111 (sx xs (nrm (x3 + 1))) μ57) fun r61 μ60 => (
      if nrm r58 = nrm r61 then (
        f_law Ln xs n (x3 + 6) μ60)
      else (
        some (0, μ60))))))
    else (
    if nrm (jand (sx xs (nrm x3)) 63) = 7 then (
      gd (0 ≤ nrm (x3 + 1) ∧ nrm (x3 + 1) < (Ln : Int)) (
      bn (f_X11_go 0 (sx xs (nrm (x3 + 1))) μ) fun r66 μ65 => (
      bn (f_X12_go 111 (sx xs (nrm (x3 + 1))) μ65) fun r69 μ68 => (
      if nrm r66 = nrm r69 then (
        f_law Ln xs n (x3 + 6) μ68)
      else (
        some (0, μ68))))))
    else (
    if nrm (jand (sx xs (nrm x3)) 63) = 8 then (
      gd (0 ≤ nrm (x3 + 1) ∧ nrm (x3 + 1) < (Ln : Int)) (
      bn (f_X11_fill 0 (sx xs (nrm (x3 + 1))) μ) fun r74 μ73 => (
      bn (f_X12_fill 111 (sx xs (nrm (x3 + 1))) μ73) fun r77 μ76 => (
      if nrm r74 = nrm r77 then (
        f_law Ln xs n (x3 + 6) μ76)
      else (
        some (0, μ76))))))
    else (
    if nrm (jand (sx xs (nrm x3)) 63) = 9 then (
      gd (0 ≤ nrm (x3 + 1) ∧ nrm (x3 + 1) < (Ln : Int)) (
      bn (f_X11_dig 0 (sx xs (nrm (x3 + 1))) μ) fun r82 μ81 => (
      bn (f_X12_dig 111 (sx xs (nrm (x3 + 1))) μ81) fun r85 μ84 => (
      if nrm r82 = nrm r85 then (
        f_law Ln xs n (x3 + 6) μ84)
      else (
        some (0, μ84))))))
    else (
    if nrm (jand (sx xs (nrm x3)) 63) = 10 then (
      gd (0 ≤ nrm (x3 + 1) ∧ nrm (x3 + 1) < (Ln : Int)) (
      bn (f_X11_turn 0 (sx xs (nrm (x3 + 1))) μ) fun r90 μ89 => (
      bn (f_X12_turn 111 (sx xs (nrm (x3 + 1))) μ89) fun r93 μ92 => (
      if nrm r90 = nrm r93 then (
        f_law Ln xs n (x3 + 6) μ92)
      else (
        some (0, μ92))))))
    else (
    if nrm (jand (sx xs (nrm x3)) 63) = 11 then (
      gd (0 ≤ nrm (x3 + 1) ∧ nrm (x3 + 1) < (Ln : Int)) (
      bn (f_X11_seasons 0 (sx xs (nrm (x3 + 1))) μ) fun r98 μ97 => (
      bn (f_X12_seasons 111 (sx xs (nrm (x3 + 1))) μ97) fun r101 μ100 => (
      if nrm r98 = nrm r101 then (
        f_law Ln xs n (x3 + 6) μ100)
      else (
        some (0, μ100))))))
    else (
    if nrm (jand (sx xs (nrm x3)) 63) = 12 then (
      gd (0 ≤ nrm (x3 + 1) ∧ nrm (x3 + 1) < (Ln : Int)) (
      bn (f_X11_rain 0 (sx xs (nrm (x3 + 1))) μ) fun r106 μ105 => (
      bn (f_X12_rain 111 (sx xs (nrm (x3 + 1))) μ105) fun r109 μ108 => (
      if nrm r106 = nrm r109 then (
        f_law Ln xs n (x3 + 6) μ108)
      else (
        some (0, μ108))))))
    else (
    if nrm (jand (sx xs (nrm x3)) 63) = 13 then (
      gd (0 ≤ nrm (x3 + 1) ∧ nrm (x3 + 1) < (Ln : Int)) (
      bn (f_X11_undo 0 (sx xs (nrm (x3 + 1))) μ) fun r114 μ113 => (
      bn (f_X12_undo 111 (sx xs (nrm (x3 + 1))) μ113) fun r117 μ116 => (
      if nrm r114 = nrm r117 then (
        f_law Ln xs n (x3 + 6) μ116)
      else (
        some (0, μ116))))))
    else (
    if nrm (jand (sx xs (nrm x3)) 63) = 14 then (
      gd (0 ≤ nrm (x3 + 1) ∧ nrm (x3 + 1) < (Ln : Int)) (
      gd (0 ≤ nrm (x3 + 2) ∧ nrm (x3 + 2) < (Ln : Int)) (
      bn (f_X11_judge 0 (sx xs (nrm (x3 + 1))) (sx xs (nrm (x3 + 2))) μ) fun r123 μ122 => (
      bn (f_X12_judge 111 (sx xs (nrm (x3 + 1))) (sx xs (nrm (x3 + 2))) μ122) fun r126 μ125 => (
      if nrm r123 = nrm r126 then (
        f_law Ln xs n (x3 + 6) μ125)
      else (
        some (0, μ125)))))))
    else (
    if nrm (jand (sx xs (nrm x3)) 63) = 15 then (
      gd (0 ≤ nrm (x3 + 1) ∧ nrm (x3 + 1) < (Ln : Int)) (
      bn (f_X11_perform 0 (sx xs (nrm (x3 + 1))) μ) fun r131 μ130 => (
      bn (f_X12_perform 111 (sx xs (nrm (x3 + 1))) μ130) fun r134 μ133 => (
      if nrm r131 = nrm r134 then (
        f_law Ln xs n (x3 + 6) μ133)
      else (
        some (0, μ133))))))
    else (
    if nrm (jand (sx xs (nrm x3)) 63) = 16 then (
      gd (0 ≤ nrm (x3 + 1) ∧ nrm (x3 + 1) < (Ln : Int)) (
      gd (0 ≤ nrm (x3 + 2) ∧ nrm (x3 + 2) < (Ln : Int)) (
      bn (f_X11_year 0 (sx xs (nrm (x3 + 1))) (sx xs (nrm (x3 + 2))) μ) fun r140 μ139 => (
      bn (f_X12_year 111 (sx xs (nrm (x3 + 1))) (sx xs (nrm (x3 + 2))) μ139) fun r143 μ142 => (
      if nrm r140 = nrm r143 then (
        f_law Ln xs n (x3 + 6) μ142)
      else (
        some (0, μ142)))))))
    else (
    if nrm (jand (sx xs (nrm x3)) 63) = 17 then (
      bn (f_X11_reach 0 μ) fun r147 μ146 => (
      bn (f_X12_reach 111 μ146) fun r150 μ149 => (
      if nrm r147 = nrm r150 then (
        f_law Ln xs n (x3 + 6) μ149)
      else (
        some (0, μ149)))))
    else (
    if nrm (jand (sx xs (nrm x3)) 63) = 18 then (
      gd (0 ≤ nrm (x3 + 1) ∧ nrm (x3 + 1) < (Ln : Int)) (
      bn (f_X11_soonest 0 (sx xs (nrm (x3 + 1))) μ) fun r155 μ154 => (
      bn (f_X12_soonest 111 (sx xs (nrm (x3 + 1))) μ154) fun r158 μ157 => (
      if nrm r155 = nrm r158 then (
        f_law Ln xs n (x3 + 6) μ157)
      else (
        some (0, μ157))))))
    else (
    if nrm (jand (sx xs (nrm x3)) 63) = 19 then (
      gd (0 ≤ nrm (x3 + 1) ∧ nrm (x3 + 1) < (Ln : Int)) (
      gd (0 ≤ nrm (x3 + 2) ∧ nrm (x3 + 2) < (Ln : Int)) (
      bn (f_X11_rows 0 (sx xs (nrm (x3 + 1))) (sx xs (nrm (x3 + 2))) μ) fun r164 μ163 => (
      bn (f_X12_rows 111 (sx xs (nrm (x3 + 1))) (sx xs (nrm (x3 + 2))) μ163) fun r167 μ166 => (
      if nrm r164 = nrm r167 then (
        f_law Ln xs n (x3 + 6) μ166)
      else (
        some (0, μ166)))))))
    else (
    if nrm (jand (sx xs (nrm x3)) 63) = 20 then (
      gd (0 ≤ nrm (x3 + 1) ∧ nrm (x3 + 1) < (Ln : Int)) (
      gd (0 ≤ nrm (x3 + 2) ∧ nrm (x3 + 2) < (Ln : Int)) (
      bn (f_X11_way 0 (sx xs (nrm (x3 + 1))) (sx xs (nrm (x3 + 2))) μ) fun r173 μ172 => (
      bn (f_X12_way 111 (sx xs (nrm (x3 + 1))) (sx xs (nrm (x3 + 2))) μ172) fun r176 μ175 => (
      if nrm r173 = nrm r176 then (
        f_law Ln xs n (x3 + 6) μ175)
      else (
        some (0, μ175)))))))
    else (
    if nrm (jand (sx xs (nrm x3)) 63) = 21 then (
      gd (0 ≤ nrm (x3 + 1) ∧ nrm (x3 + 1) < (Ln : Int)) (
      bn (f_X11_toAndFro 0 (sx xs (nrm (x3 + 1))) μ) fun r181 μ180 => (
      bn (f_X12_toAndFro 111 (sx xs (nrm (x3 + 1))) μ180) fun r184 μ183 => (
      if nrm r181 = nrm r184 then (
        f_law Ln xs n (x3 + 6) μ183)
      else (
        some (0, μ183))))))
    else (
    if nrm (jand (sx xs (nrm x3)) 63) = 22 then (
      gd (0 ≤ nrm (x3 + 1) ∧ nrm (x3 + 1) < (Ln : Int)) (
      gd (0 ≤ nrm (x3 + 2) ∧ nrm (x3 + 2) < (Ln : Int)) (
      bn (f_X11_cheapest 0 (sx xs (nrm (x3 + 1))) (sx xs (nrm (x3 + 2))) μ) fun r190 μ189 => (
      bn (f_X12_cheapest 111 (sx xs (nrm (x3 + 1))) (sx xs (nrm (x3 + 2))) μ189) fun r193 μ192 => (
      if nrm r190 = nrm r193 then (
        f_law Ln xs n (x3 + 6) μ192)
      else (
        some (0, μ192)))))))
    else (
    if nrm (jand (sx xs (nrm x3)) 63) = 23 then (
      gd (0 ≤ nrm (x3 + 1) ∧ nrm (x3 + 1) < (Ln : Int)) (
      gd (0 ≤ nrm (x3 + 2) ∧ nrm (x3 + 2) < (Ln : Int)) (
      bn (f_X11_cheapBy 0 (sx xs (nrm (x3 + 1))) (sx xs (nrm (x3 + 2))) μ) fun r199 μ198 => (
      bn (f_X12_cheapBy 111 (sx xs (nrm (x3 + 1))) (sx xs (nrm (x3 + 2))) μ198) fun r202 μ201 => (
      if nrm r199 = nrm r202 then (
        f_law Ln xs n (x3 + 6) μ201)
      else (
        some (0, μ201)))))))
    else (
    if nrm (jand (sx xs (nrm x3)) 63) = 24 then (
      gd (0 ≤ nrm (x3 + 1) ∧ nrm (x3 + 1) < (Ln : Int)) (
      bn (f_X11_joins 0 (sx xs (nrm (x3 + 1))) μ) fun r207 μ206 => (
      bn (f_X12_joins 111 (sx xs (nrm (x3 + 1))) μ206) fun r210 μ209 => (
      if nrm r207 = nrm r210 then (
        f_law Ln xs n (x3 + 6) μ209)
      else (
        some (0, μ209))))))
    else (
    if nrm (jand (sx xs (nrm x3)) 63) = 25 then (
      gd (0 ≤ nrm (x3 + 1) ∧ nrm (x3 + 1) < (Ln : Int)) (
      gd (0 ≤ nrm (x3 + 2) ∧ nrm (x3 + 2) < (Ln : Int)) (
      bn (f_X11_shuts 0 (sx xs (nrm (x3 + 1))) (sx xs (nrm (x3 + 2))) μ) fun r216 μ215 => (
      bn (f_X12_shuts 111 (sx xs (nrm (x3 + 1))) (sx xs (nrm (x3 + 2))) μ215) fun r219 μ218 => (
      if nrm r216 = nrm r219 then (
        f_law Ln xs n (x3 + 6) μ218)
      else (
        some (0, μ218)))))))
    else (
    if nrm (jand (sx xs (nrm x3)) 63) = 26 then (
      gd (0 ≤ nrm (x3 + 1) ∧ nrm (x3 + 1) < (Ln : Int)) (
      bn (f_X11_turning 0 (sx xs (nrm (x3 + 1))) μ) fun r224 μ223 => (
      bn (f_X12_turning 111 (sx xs (nrm (x3 + 1))) μ223) fun r227 μ226 => (
      if nrm r224 = nrm r227 then (
        f_law Ln xs n (x3 + 6) μ226)
      else (
        some (0, μ226))))))
    else (
    if nrm (jand (sx xs (nrm x3)) 63) = 27 then (
      gd (0 ≤ nrm (x3 + 1) ∧ nrm (x3 + 1) < (Ln : Int)) (
      bn (f_X11_when 0 (sx xs (nrm (x3 + 1))) μ) fun r232 μ231 => (
      bn (f_X12_when 111 (sx xs (nrm (x3 + 1))) μ231) fun r235 μ234 => (
      if nrm r232 = nrm r235 then (
        f_law Ln xs n (x3 + 6) μ234)
      else (
        some (0, μ234))))))
    else (
    if nrm (jand (sx xs (nrm x3)) 63) = 28 then (
      gd (0 ≤ nrm (x3 + 1) ∧ nrm (x3 + 1) < (Ln : Int)) (
      bn (f_X11_starts 0 (sx xs (nrm (x3 + 1))) μ) fun r240 μ239 => (
      bn (f_X12_starts 111 (sx xs (nrm (x3 + 1))) μ239) fun r243 μ242 => (
      if nrm r240 = nrm r243 then (
        f_law Ln xs n (x3 + 6) μ242)
      else (
        some (0, μ242))))))
    else (
    if nrm (jand (sx xs (nrm x3)) 63) = 29 then (
      gd (0 ≤ nrm (x3 + 1) ∧ nrm (x3 + 1) < (Ln : Int)) (
      bn (f_X11_rains 0 (sx xs (nrm (x3 + 1))) μ) fun r248 μ247 => (
      bn (f_X12_rains 111 (sx xs (nrm (x3 + 1))) μ247) fun r251 μ250 => (
      if nrm r248 = nrm r251 then (
        f_law Ln xs n (x3 + 6) μ250)
      else (
        some (0, μ250))))))
    else (
    if nrm (jand (sx xs (nrm x3)) 63) = 30 then (
      gd (0 ≤ nrm (x3 + 1) ∧ nrm (x3 + 1) < (Ln : Int)) (
      bn (f_X11_attempt 0 (sx xs (nrm (x3 + 1))) μ) fun r256 μ255 => (
      bn (f_X12_attempt 111 (sx xs (nrm (x3 + 1))) μ255) fun r259 μ258 => (
      if nrm r256 = nrm r259 then (
        f_law Ln xs n (x3 + 6) μ258)
      else (
        some (0, μ258))))))
    else (
    if nrm (jand (sx xs (nrm x3)) 63) = 31 then (
      bn (f_X11_wins 0 μ) fun r263 μ262 => (
      bn (f_X12_wins 111 μ262) fun r266 μ265 => (
      if nrm r263 = nrm r266 then (
        f_law Ln xs n (x3 + 6) μ265)
      else (
        some (0, μ265)))))
    else (
    if nrm (jand (sx xs (nrm x3)) 63) = 32 then (
      bn (f_X11_best 0 μ) fun r270 μ269 => (
      bn (f_X12_best 111 μ269) fun r273 μ272 => (
      if nrm r270 = nrm r273 then (
        f_law Ln xs n (x3 + 6) μ272)
      else (
        some (0, μ272)))))
    else (
    if nrm (jand (sx xs (nrm x3)) 63) = 33 then (
      gd (0 ≤ nrm (x3 + 1) ∧ nrm (x3 + 1) < (Ln : Int)) (
      gd (0 ≤ nrm (x3 + 2) ∧ nrm (x3 + 2) < (Ln : Int)) (
      gd (0 ≤ nrm (x3 + 3) ∧ nrm (x3 + 3) < (Ln : Int)) (
      bn (f_X11_chance 0 (sx xs (nrm (x3 + 1))) (sx xs (nrm (x3 + 2))) (sx xs (nrm (x3 + 3))) μ) fun r280 μ279 => (
      bn (f_X12_chance 111 (sx xs (nrm (x3 + 1))) (sx xs (nrm (x3 + 2))) (sx xs (nrm (x3 + 3))) μ279) fun r283 μ282 => (
      if nrm r280 = nrm r283 then (
        f_law Ln xs n (x3 + 6) μ282)
      else (
        some (0, μ282))))))))
    else (
    if nrm (jand (sx xs (nrm x3)) 63) = 34 then (
      gd (0 ≤ nrm (x3 + 1) ∧ nrm (x3 + 1) < (Ln : Int)) (
      gd (0 ≤ nrm (x3 + 2) ∧ nrm (x3 + 2) < (Ln : Int)) (
      bn (f_X11_bestBy 0 (sx xs (nrm (x3 + 1))) (sx xs (nrm (x3 + 2))) μ) fun r289 μ288 => (
      bn (f_X12_bestBy 111 (sx xs (nrm (x3 + 1))) (sx xs (nrm (x3 + 2))) μ288) fun r292 μ291 => (
      if nrm r289 = nrm r292 then (
        f_law Ln xs n (x3 + 6) μ291)
      else (
        some (0, μ291)))))))
    else (
    if nrm (jand (sx xs (nrm x3)) 63) = 35 then (
      gd (0 ≤ nrm (x3 + 1) ∧ nrm (x3 + 1) < (Ln : Int)) (
      gd (0 ≤ nrm (x3 + 2) ∧ nrm (x3 + 2) < (Ln : Int)) (
      gd (0 ≤ nrm (x3 + 3) ∧ nrm (x3 + 3) < (Ln : Int)) (
      bn (f_X11_numbers 0 (sx xs (nrm (x3 + 1))) (sx xs (nrm (x3 + 2))) (sx xs (nrm (x3 + 3))) μ) fun r299 μ298 => (
      bn (f_X12_numbers 111 (sx xs (nrm (x3 + 1))) (sx xs (nrm (x3 + 2))) (sx xs (nrm (x3 + 3))) μ298) fun r302 μ301 => (
      if nrm r299 = nrm r302 then (
        f_law Ln xs n (x3 + 6) μ301)
      else (
        some (0, μ301))))))))
    else (
    if nrm (jand (sx xs (nrm x3)) 63) = 36 then (
      gd (0 ≤ nrm (x3 + 1) ∧ nrm (x3 + 1) < (Ln : Int)) (
      gd (0 ≤ nrm (x3 + 2) ∧ nrm (x3 + 2) < (Ln : Int)) (
      gd (0 ≤ nrm (x3 + 3) ∧ nrm (x3 + 3) < (Ln : Int)) (
      gd (0 ≤ nrm (x3 + 4) ∧ nrm (x3 + 4) < (Ln : Int)) (
      bn (f_X11_write 0 (sx xs (nrm (x3 + 1))) (sx xs (nrm (x3 + 2))) (kor (kshl (nrm (sx xs (nrm (x3 + 3)))) 32) (kand (nrm (sx xs (nrm (x3 + 4)))) 4294967295)) μ) fun r310 μ309 => (
      bn (f_X12_write 111 (sx xs (nrm (x3 + 1))) (sx xs (nrm (x3 + 2))) (kor (kshl (nrm (sx xs (nrm (x3 + 3)))) 32) (kand (nrm (sx xs (nrm (x3 + 4)))) 4294967295)) μ309) fun r313 μ312 => (
      if nrm (kcmp r310 r313) = 0 then (
        f_law Ln xs n (x3 + 6) μ312)
      else (
        some (0, μ312)))))))))
    else (
    if nrm (jand (sx xs (nrm x3)) 63) = 37 then (
      gd (0 ≤ nrm (x3 + 1) ∧ nrm (x3 + 1) < (Ln : Int)) (
      gd (0 ≤ nrm (x3 + 2) ∧ nrm (x3 + 2) < (Ln : Int)) (
      bn (f_X11_lists 0 (sx xs (nrm (x3 + 1))) (sx xs (nrm (x3 + 2))) μ) fun r319 μ318 => (
      bn (f_X12_lists 111 (sx xs (nrm (x3 + 1))) (sx xs (nrm (x3 + 2))) μ318) fun r322 μ321 => (
      if nrm r319 = nrm r322 then (
        f_law Ln xs n (x3 + 6) μ321)
      else (
        some (0, μ321)))))))
    else (
    if nrm (jand (sx xs (nrm x3)) 63) = 38 then (
      gd (0 ≤ nrm (x3 + 1) ∧ nrm (x3 + 1) < (Ln : Int)) (
      bn (f_X11_image 0 (sx xs (nrm (x3 + 1))) μ) fun r327 μ326 => (
      bn (f_X12_image 111 (sx xs (nrm (x3 + 1))) μ326) fun r330 μ329 => (
      if nrm r327 = nrm r330 then (
        f_law Ln xs n (x3 + 6) μ329)
      else (
        some (0, μ329))))))
    else (
    if nrm (jand (sx xs (nrm x3)) 63) = 39 then (
      gd (0 ≤ nrm (x3 + 1) ∧ nrm (x3 + 1) < (Ln : Int)) (
      bn (f_X11_restore 0 (sx xs (nrm (x3 + 1))) μ) fun r335 μ334 => (
      bn (f_X12_restore 111 (sx xs (nrm (x3 + 1))) μ334) fun r338 μ337 => (
      if nrm r335 = nrm r338 then (
        f_law Ln xs n (x3 + 6) μ337)
      else (
        some (0, μ337))))))
    else (
    if nrm (jand (sx xs (nrm x3)) 63) = 40 then (
      gd (0 ≤ nrm (x3 + 1) ∧ nrm (x3 + 1) < (Ln : Int)) (
      bn (f_X11_count 0 (sx xs (nrm (x3 + 1))) μ) fun r343 μ342 => (
      bn (f_X12_count 111 (sx xs (nrm (x3 + 1))) μ342) fun r346 μ345 => (
      if nrm r343 = nrm r346 then (
        f_law Ln xs n (x3 + 6) μ345)
      else (
        some (0, μ345))))))
    else (
    f_law Ln xs n (x3 + 6) μ)))))))))))))))))))))))))))))))))))))))))))
set_option maxHeartbeats 40000000 in
set_option maxRecDepth 20000 in
theorem w_law {p : Program} {l : Launch} {e : Env} {s : State} {m : MethodId} {below : List Frame} {meth : Method} {c : Code} {D : Ds} {b0 Ln : Nat} {xs : Nat → Int32} (C : Cx p s m #[Value.ref b0] meth c D s.heap.size code 4 R_law ret) (hX : va_X b0 Ln xs s s.heap) (hbl : b0 < s.heap.size) {μ' : Mem} : ∀ (n : Nat) (x3 : Int) (μ : Mem) (H : Heap) (locs : List Loc) (ls : Array Slot), f_law Ln xs n x3 μ = some (1, μ') → Hw D s.heap.size μ s.heap H locs → lvh s.heap.size ls 4 [(0, 3, (b0 : Int)), (1, 2, 0), (2, 2, 111), (3, 0, x3)] → W p l e room_1 s m #[Value.ref b0] below meth c H locs 129 20805 (lw_Z below #[Value.ref b0] s) (F0 m 18 ls []) := by
  intro n
  induction n with
  | zero => intro x3 μ H locs ls hf; cases hf
  | succ n ih =>
    intro x3 μ H locs ls hf hw hl
    rw [f_law.eq_2] at hf
    refine r_iload_n C hl (kx := 3) rfl rfl dL_law_18 ?_
    refine r_load3 C hl (kx := 0) rfl rfl dL_law_19 ?_
    refine r_slenL C hw hX hbl hbl dL_law_20 ?_
    refine r_bipush C (by decide) dL_law_21 ?_
    refine r_isub C dL_law_23 ?_
    refine r_icmp_gt C (tgt := 1362) (by decide) dL_law_24 (fun c1 => ?_) (fun c1 => ?_)
    · have hf := ite_t c1 hf
      refine r_iconst C dL_law_1362 ?_
      refine va_forget (fun q hq => (hw.2.2.2 q hq).1) ?_
      refine W.widen (k := 600000) (n := 7302250) (by decide) (by decide) ?_
      exact lw_ret C.1 C.2.1 C.2.2.2.2.2.2.1 C.2.2.2.2.2.2.2.1 dL_law_1363
    · have hf := ite_f c1 hf
      refine r_load3 C hl (kx := 0) rfl rfl dL_law_27 ?_
      refine r_iload_n C hl (kx := 3) rfl rfl dL_law_28 ?_
      obtain ⟨g2, hf⟩ := gd_some hf
      refine r_sld C hw hX hbl hbl g2 dL_law_29 ?_
      refine r_bipush C (by decide) dL_law_30 ?_
      refine r_iand C dL_law_32 ?_
      rcases Decidable.em (nrm (jand (sx xs (nrm x3)) 63) = 0) with cs0 | cs0
      · have hf := ite_t cs0 hf
        refine r_tabIn C (tgt := 212) cs0 (by decide) (by decide) rfl (by decide) dL_law_33 ?_
        refine r_aload_n C hl (kx := 1) rfl rfl dL_law_212 ?_
        refine r_load3 C hl (kx := 0) rfl rfl dL_law_213 ?_
        refine r_iload_n C hl (kx := 3) rfl rfl dL_law_214 ?_
        refine r_iconst C dL_law_215 ?_
        refine r_iadd C dL_law_216 ?_
        obtain ⟨g3, hf⟩ := gd_some hf
        refine r_sld C hw hX hbl hbl g3 dL_law_217 ?_
        refine r_load3 C hl (kx := 0) rfl rfl dL_law_218 ?_
        refine r_iload_n C hl (kx := 3) rfl rfl dL_law_219 ?_
        refine r_iconst C dL_law_220 ?_
        refine r_iadd C dL_law_221 ?_
        obtain ⟨g4, hf⟩ := gd_some hf
        refine r_sld C hw hX hbl hbl g4 dL_law_222 ?_
        refine r_load3 C hl (kx := 0) rfl rfl dL_law_223 ?_
        refine r_iload_n C hl (kx := 3) rfl rfl dL_law_224 ?_
        refine r_iconst C dL_law_225 ?_
        refine r_iadd C dL_law_226 ?_
        obtain ⟨g5, hf⟩ := gd_some hf
        refine r_sld C hw hX hbl hbl g5 dL_law_227 ?_
        refine r_load3 C hl (kx := 0) rfl rfl dL_law_228 ?_
        refine r_iload_n C hl (kx := 3) rfl rfl dL_law_229 ?_
        refine r_iconst C dL_law_230 ?_
        refine r_iadd C dL_law_231 ?_
        obtain ⟨g6, hf⟩ := gd_some hf
        refine r_sld C hw hX hbl hbl g6 dL_law_232 ?_
        refine r_load3 C hl (kx := 0) rfl rfl dL_law_233 ?_
        refine r_iload_n C hl (kx := 3) rfl rfl dL_law_234 ?_
        refine r_iconst C dL_law_235 ?_
        refine r_iadd C dL_law_236 ?_
        obtain ⟨g7, hf⟩ := gd_some hf
        refine r_sld C hw hX hbl hbl g7 dL_law_237 ?_
        obtain ⟨r9, μ8, e10, hf⟩ := bn_some hf
        refine r_callL C hw (K := [(0, (sx xs (nrm (x3 + 1)))), (0, (sx xs (nrm (x3 + 2)))), (0, (sx xs (nrm (x3 + 3)))), (0, (sx xs (nrm (x3 + 4)))), (0, (sx xs (nrm (x3 + 5))))]) ok11 kk_0 (c_X11_feed l D _ kk_0 e10) mi_X11_feed in_X11_feed se_X11_feed kl_L_13 rfl rfl (lvh_sz hl) (by decide) (by decide) (Nat.le_of_ble_eq_true rfl) dL_law_238 (fun H locs hw => ?_)
        refine r_aload_n C hl (kx := 2) rfl rfl dL_law_241 ?_
        refine r_load3 C hl (kx := 0) rfl rfl dL_law_242 ?_
        refine r_iload_n C hl (kx := 3) rfl rfl dL_law_243 ?_
        refine r_iconst C dL_law_244 ?_
        refine r_iadd C dL_law_245 ?_
        refine r_sld C hw hX hbl hbl g3 dL_law_246 ?_
        refine r_load3 C hl (kx := 0) rfl rfl dL_law_247 ?_
        refine r_iload_n C hl (kx := 3) rfl rfl dL_law_248 ?_
        refine r_iconst C dL_law_249 ?_
        refine r_iadd C dL_law_250 ?_
        refine r_sld C hw hX hbl hbl g4 dL_law_251 ?_
        refine r_load3 C hl (kx := 0) rfl rfl dL_law_252 ?_
        refine r_iload_n C hl (kx := 3) rfl rfl dL_law_253 ?_
        refine r_iconst C dL_law_254 ?_
        refine r_iadd C dL_law_255 ?_
        refine r_sld C hw hX hbl hbl g5 dL_law_256 ?_
        refine r_load3 C hl (kx := 0) rfl rfl dL_law_257 ?_
        refine r_iload_n C hl (kx := 3) rfl rfl dL_law_258 ?_
        refine r_iconst C dL_law_259 ?_
        refine r_iadd C dL_law_260 ?_
        refine r_sld C hw hX hbl hbl g6 dL_law_261 ?_
        refine r_load3 C hl (kx := 0) rfl rfl dL_law_262 ?_
        refine r_iload_n C hl (kx := 3) rfl rfl dL_law_263 ?_
        refine r_iconst C dL_law_264 ?_
        refine r_iadd C dL_law_265 ?_
        refine r_sld C hw hX hbl hbl g7 dL_law_266 ?_
        obtain ⟨r12, μ11, e13, hf⟩ := bn_some hf
        refine r_callL C hw (K := [(0, (sx xs (nrm (x3 + 1)))), (0, (sx xs (nrm (x3 + 2)))), (0, (sx xs (nrm (x3 + 3)))), (0, (sx xs (nrm (x3 + 4)))), (0, (sx xs (nrm (x3 + 5))))]) ok12 kk_111 (c_X12_feed l D _ kk_111 e13) mi_X12_feed in_X12_feed se_X12_feed kl_L_17 rfl rfl (lvh_sz hl) (by decide) (by decide) (Nat.le_of_ble_eq_true rfl) dL_law_267 (fun H locs hw => ?_)
        refine r_icmp_eq C (tgt := 1356) (by decide) dL_law_270 (fun c14 => ?_) (fun c14 => ?_)
        · have hf := ite_t c14 hf
          refine r_iinc C hl (kx := 3) rfl (by decide) (L' := [(3, 0, (x3 + 6)), (0, 3, (b0 : Int)), (1, 2, 0), (2, 2, 111)]) rfl dL_law_1356 (fun ls hl => ?_)
          refine r_goto C (tgt := 18) (by decide) dL_law_1359 ?_
          exact ih _ _ _ _ _ hf hw (lvh_sub hl [1, 2, 3, 0] rfl)
        · have hf := ite_f c14 hf
          refine r_iconst C dL_law_273 ?_
          cases hf
      have hf := ite_f cs0 hf
      rcases Decidable.em (nrm (jand (sx xs (nrm x3)) 63) = 1) with cs1 | cs1
      · have hf := ite_t cs1 hf
        refine r_tabIn C (tgt := 275) cs1 (by decide) (by decide) rfl (by decide) dL_law_33 ?_
        refine r_aload_n C hl (kx := 1) rfl rfl dL_law_275 ?_
        refine r_load3 C hl (kx := 0) rfl rfl dL_law_276 ?_
        refine r_iload_n C hl (kx := 3) rfl rfl dL_law_277 ?_
        refine r_iconst C dL_law_278 ?_
        refine r_iadd C dL_law_279 ?_
        obtain ⟨g15, hf⟩ := gd_some hf
        refine r_sld C hw hX hbl hbl g15 dL_law_280 ?_
        obtain ⟨r17, μ16, e18, hf⟩ := bn_some hf
        refine r_callL C hw (K := [(0, (sx xs (nrm (x3 + 1))))]) ok11 kk_0 (c_X11_land l D _ kk_0 e18) mi_X11_land in_X11_land se_X11_land kl_L_18 rfl rfl (lvh_sz hl) (by decide) (by decide) (Nat.le_of_ble_eq_true rfl) dL_law_281 (fun H locs hw => ?_)
        refine r_aload_n C hl (kx := 2) rfl rfl dL_law_284 ?_
        refine r_load3 C hl (kx := 0) rfl rfl dL_law_285 ?_
        refine r_iload_n C hl (kx := 3) rfl rfl dL_law_286 ?_
        refine r_iconst C dL_law_287 ?_
        refine r_iadd C dL_law_288 ?_
        refine r_sld C hw hX hbl hbl g15 dL_law_289 ?_
        obtain ⟨r20, μ19, e21, hf⟩ := bn_some hf
        refine r_callL C hw (K := [(0, (sx xs (nrm (x3 + 1))))]) ok12 kk_111 (c_X12_land l D _ kk_111 e21) mi_X12_land in_X12_land se_X12_land kl_L_22 rfl rfl (lvh_sz hl) (by decide) (by decide) (Nat.le_of_ble_eq_true rfl) dL_law_290 (fun H locs hw => ?_)
        refine r_icmp_eq C (tgt := 1356) (by decide) dL_law_293 (fun c22 => ?_) (fun c22 => ?_)
        · have hf := ite_t c22 hf
          refine r_iinc C hl (kx := 3) rfl (by decide) (L' := [(3, 0, (x3 + 6)), (0, 3, (b0 : Int)), (1, 2, 0), (2, 2, 111)]) rfl dL_law_1356 (fun ls hl => ?_)
          refine r_goto C (tgt := 18) (by decide) dL_law_1359 ?_
          exact ih _ _ _ _ _ hf hw (lvh_sub hl [1, 2, 3, 0] rfl)
        · have hf := ite_f c22 hf
          refine r_iconst C dL_law_296 ?_
          cases hf
      have hf := ite_f cs1 hf
      rcases Decidable.em (nrm (jand (sx xs (nrm x3)) 63) = 2) with cs2 | cs2
      · have hf := ite_t cs2 hf
        refine r_tabIn C (tgt := 298) cs2 (by decide) (by decide) rfl (by decide) dL_law_33 ?_
        refine r_aload_n C hl (kx := 1) rfl rfl dL_law_298 ?_
        refine r_load3 C hl (kx := 0) rfl rfl dL_law_299 ?_
        refine r_iload_n C hl (kx := 3) rfl rfl dL_law_300 ?_
        refine r_iconst C dL_law_301 ?_
        refine r_iadd C dL_law_302 ?_
        obtain ⟨g23, hf⟩ := gd_some hf
        refine r_sld C hw hX hbl hbl g23 dL_law_303 ?_
        obtain ⟨r25, μ24, e26, hf⟩ := bn_some hf
        refine r_callL C hw (K := [(0, (sx xs (nrm (x3 + 1))))]) ok11 kk_0 (c_X11_fault l D _ kk_0 e26) mi_X11_fault in_X11_fault se_X11_fault kl_L_23 rfl rfl (lvh_sz hl) (by decide) (by decide) (Nat.le_of_ble_eq_true rfl) dL_law_304 (fun H locs hw => ?_)
        refine r_aload_n C hl (kx := 2) rfl rfl dL_law_307 ?_
        refine r_load3 C hl (kx := 0) rfl rfl dL_law_308 ?_
        refine r_iload_n C hl (kx := 3) rfl rfl dL_law_309 ?_
        refine r_iconst C dL_law_310 ?_
        refine r_iadd C dL_law_311 ?_
        refine r_sld C hw hX hbl hbl g23 dL_law_312 ?_
        obtain ⟨r28, μ27, e29, hf⟩ := bn_some hf
        refine r_callL C hw (K := [(0, (sx xs (nrm (x3 + 1))))]) ok12 kk_111 (c_X12_fault l D _ kk_111 e29) mi_X12_fault in_X12_fault se_X12_fault kl_L_26 rfl rfl (lvh_sz hl) (by decide) (by decide) (Nat.le_of_ble_eq_true rfl) dL_law_313 (fun H locs hw => ?_)
        refine r_icmp_eq C (tgt := 1356) (by decide) dL_law_316 (fun c30 => ?_) (fun c30 => ?_)
        · have hf := ite_t c30 hf
          refine r_iinc C hl (kx := 3) rfl (by decide) (L' := [(3, 0, (x3 + 6)), (0, 3, (b0 : Int)), (1, 2, 0), (2, 2, 111)]) rfl dL_law_1356 (fun ls hl => ?_)
          refine r_goto C (tgt := 18) (by decide) dL_law_1359 ?_
          exact ih _ _ _ _ _ hf hw (lvh_sub hl [1, 2, 3, 0] rfl)
        · have hf := ite_f c30 hf
          refine r_iconst C dL_law_319 ?_
          cases hf
      have hf := ite_f cs2 hf
      rcases Decidable.em (nrm (jand (sx xs (nrm x3)) 63) = 3) with cs3 | cs3
      · have hf := ite_t cs3 hf
        refine r_tabIn C (tgt := 321) cs3 (by decide) (by decide) rfl (by decide) dL_law_33 ?_
        refine r_aload_n C hl (kx := 1) rfl rfl dL_law_321 ?_
        refine r_load3 C hl (kx := 0) rfl rfl dL_law_322 ?_
        refine r_iload_n C hl (kx := 3) rfl rfl dL_law_323 ?_
        refine r_iconst C dL_law_324 ?_
        refine r_iadd C dL_law_325 ?_
        obtain ⟨g31, hf⟩ := gd_some hf
        refine r_sld C hw hX hbl hbl g31 dL_law_326 ?_
        refine r_load3 C hl (kx := 0) rfl rfl dL_law_327 ?_
        refine r_iload_n C hl (kx := 3) rfl rfl dL_law_328 ?_
        refine r_iconst C dL_law_329 ?_
        refine r_iadd C dL_law_330 ?_
        obtain ⟨g32, hf⟩ := gd_some hf
        refine r_sld C hw hX hbl hbl g32 dL_law_331 ?_
        obtain ⟨r34, μ33, e35, hf⟩ := bn_some hf
        refine r_callL C hw (K := [(0, (sx xs (nrm (x3 + 1)))), (0, (sx xs (nrm (x3 + 2))))]) ok11 kk_0 (c_X11_lane l D _ kk_0 e35) mi_X11_lane in_X11_lane se_X11_lane kl_L_27 rfl rfl (lvh_sz hl) (by decide) (by decide) (Nat.le_of_ble_eq_true rfl) dL_law_332 (fun H locs hw => ?_)
        refine r_aload_n C hl (kx := 2) rfl rfl dL_law_335 ?_
        refine r_load3 C hl (kx := 0) rfl rfl dL_law_336 ?_
        refine r_iload_n C hl (kx := 3) rfl rfl dL_law_337 ?_
        refine r_iconst C dL_law_338 ?_
        refine r_iadd C dL_law_339 ?_
        refine r_sld C hw hX hbl hbl g31 dL_law_340 ?_
        refine r_load3 C hl (kx := 0) rfl rfl dL_law_341 ?_
        refine r_iload_n C hl (kx := 3) rfl rfl dL_law_342 ?_
        refine r_iconst C dL_law_343 ?_
        refine r_iadd C dL_law_344 ?_
        refine r_sld C hw hX hbl hbl g32 dL_law_345 ?_
        obtain ⟨r37, μ36, e38, hf⟩ := bn_some hf
        refine r_callL C hw (K := [(0, (sx xs (nrm (x3 + 1)))), (0, (sx xs (nrm (x3 + 2))))]) ok12 kk_111 (c_X12_lane l D _ kk_111 e38) mi_X12_lane in_X12_lane se_X12_lane kl_L_31 rfl rfl (lvh_sz hl) (by decide) (by decide) (Nat.le_of_ble_eq_true rfl) dL_law_346 (fun H locs hw => ?_)
        refine r_icmp_eq C (tgt := 1356) (by decide) dL_law_349 (fun c39 => ?_) (fun c39 => ?_)
        · have hf := ite_t c39 hf
          refine r_iinc C hl (kx := 3) rfl (by decide) (L' := [(3, 0, (x3 + 6)), (0, 3, (b0 : Int)), (1, 2, 0), (2, 2, 111)]) rfl dL_law_1356 (fun ls hl => ?_)
          refine r_goto C (tgt := 18) (by decide) dL_law_1359 ?_
          exact ih _ _ _ _ _ hf hw (lvh_sub hl [1, 2, 3, 0] rfl)
        · have hf := ite_f c39 hf
          refine r_iconst C dL_law_352 ?_
          cases hf
      have hf := ite_f cs3 hf
      rcases Decidable.em (nrm (jand (sx xs (nrm x3)) 63) = 4) with cs4 | cs4
      · have hf := ite_t cs4 hf
        refine r_tabIn C (tgt := 354) cs4 (by decide) (by decide) rfl (by decide) dL_law_33 ?_
        refine r_aload_n C hl (kx := 1) rfl rfl dL_law_354 ?_
        refine r_load3 C hl (kx := 0) rfl rfl dL_law_355 ?_
        refine r_iload_n C hl (kx := 3) rfl rfl dL_law_356 ?_
        refine r_iconst C dL_law_357 ?_
        refine r_iadd C dL_law_358 ?_
        obtain ⟨g40, hf⟩ := gd_some hf
        refine r_sld C hw hX hbl hbl g40 dL_law_359 ?_
        obtain ⟨r42, μ41, e43, hf⟩ := bn_some hf
        refine r_callL C hw (K := [(0, (sx xs (nrm (x3 + 1))))]) ok11 kk_0 (c_X11_why l D _ kk_0 e43) mi_X11_why in_X11_why se_X11_why kl_L_32 rfl rfl (lvh_sz hl) (by decide) (by decide) (Nat.le_of_ble_eq_true rfl) dL_law_360 (fun H locs hw => ?_)
        refine r_aload_n C hl (kx := 2) rfl rfl dL_law_363 ?_
        refine r_load3 C hl (kx := 0) rfl rfl dL_law_364 ?_
        refine r_iload_n C hl (kx := 3) rfl rfl dL_law_365 ?_
        refine r_iconst C dL_law_366 ?_
        refine r_iadd C dL_law_367 ?_
        refine r_sld C hw hX hbl hbl g40 dL_law_368 ?_
        obtain ⟨r45, μ44, e46, hf⟩ := bn_some hf
        refine r_callL C hw (K := [(0, (sx xs (nrm (x3 + 1))))]) ok12 kk_111 (c_X12_why l D _ kk_111 e46) mi_X12_why in_X12_why se_X12_why kl_L_35 rfl rfl (lvh_sz hl) (by decide) (by decide) (Nat.le_of_ble_eq_true rfl) dL_law_369 (fun H locs hw => ?_)
        refine r_icmp_eq C (tgt := 1356) (by decide) dL_law_372 (fun c47 => ?_) (fun c47 => ?_)
        · have hf := ite_t c47 hf
          refine r_iinc C hl (kx := 3) rfl (by decide) (L' := [(3, 0, (x3 + 6)), (0, 3, (b0 : Int)), (1, 2, 0), (2, 2, 111)]) rfl dL_law_1356 (fun ls hl => ?_)
          refine r_goto C (tgt := 18) (by decide) dL_law_1359 ?_
          exact ih _ _ _ _ _ hf hw (lvh_sub hl [1, 2, 3, 0] rfl)
        · have hf := ite_f c47 hf
          refine r_iconst C dL_law_375 ?_
          cases hf
      have hf := ite_f cs4 hf
      rcases Decidable.em (nrm (jand (sx xs (nrm x3)) 63) = 5) with cs5 | cs5
      · have hf := ite_t cs5 hf
        refine r_tabIn C (tgt := 377) cs5 (by decide) (by decide) rfl (by decide) dL_law_33 ?_
        refine r_aload_n C hl (kx := 1) rfl rfl dL_law_377 ?_
        refine r_load3 C hl (kx := 0) rfl rfl dL_law_378 ?_
        refine r_iload_n C hl (kx := 3) rfl rfl dL_law_379 ?_
        refine r_iconst C dL_law_380 ?_
        refine r_iadd C dL_law_381 ?_
        obtain ⟨g48, hf⟩ := gd_some hf
        refine r_sld C hw hX hbl hbl g48 dL_law_382 ?_
        obtain ⟨r50, μ49, e51, hf⟩ := bn_some hf
        refine r_callL C hw (K := [(0, (sx xs (nrm (x3 + 1))))]) ok11 kk_0 (c_X11_worn l D _ kk_0 e51) mi_X11_worn in_X11_worn se_X11_worn kl_L_36 rfl rfl (lvh_sz hl) (by decide) (by decide) (Nat.le_of_ble_eq_true rfl) dL_law_383 (fun H locs hw => ?_)
        refine r_aload_n C hl (kx := 2) rfl rfl dL_law_386 ?_
        refine r_load3 C hl (kx := 0) rfl rfl dL_law_387 ?_
        refine r_iload_n C hl (kx := 3) rfl rfl dL_law_388 ?_
        refine r_iconst C dL_law_389 ?_
        refine r_iadd C dL_law_390 ?_
        refine r_sld C hw hX hbl hbl g48 dL_law_391 ?_
        obtain ⟨r53, μ52, e54, hf⟩ := bn_some hf
        refine r_callL C hw (K := [(0, (sx xs (nrm (x3 + 1))))]) ok12 kk_111 (c_X12_worn l D _ kk_111 e54) mi_X12_worn in_X12_worn se_X12_worn kl_L_39 rfl rfl (lvh_sz hl) (by decide) (by decide) (Nat.le_of_ble_eq_true rfl) dL_law_392 (fun H locs hw => ?_)
        refine r_icmp_eq C (tgt := 1356) (by decide) dL_law_395 (fun c55 => ?_) (fun c55 => ?_)
        · have hf := ite_t c55 hf
          refine r_iinc C hl (kx := 3) rfl (by decide) (L' := [(3, 0, (x3 + 6)), (0, 3, (b0 : Int)), (1, 2, 0), (2, 2, 111)]) rfl dL_law_1356 (fun ls hl => ?_)
          refine r_goto C (tgt := 18) (by decide) dL_law_1359 ?_
          exact ih _ _ _ _ _ hf hw (lvh_sub hl [1, 2, 3, 0] rfl)
        · have hf := ite_f c55 hf
          refine r_iconst C dL_law_398 ?_
          cases hf
      have hf := ite_f cs5 hf
      rcases Decidable.em (nrm (jand (sx xs (nrm x3)) 63) = 6) with cs6 | cs6
      · have hf := ite_t cs6 hf
        refine r_tabIn C (tgt := 400) cs6 (by decide) (by decide) rfl (by decide) dL_law_33 ?_
        refine r_aload_n C hl (kx := 1) rfl rfl dL_law_400 ?_
        refine r_load3 C hl (kx := 0) rfl rfl dL_law_401 ?_
        refine r_iload_n C hl (kx := 3) rfl rfl dL_law_402 ?_
        refine r_iconst C dL_law_403 ?_
        refine r_iadd C dL_law_404 ?_
        obtain ⟨g56, hf⟩ := gd_some hf
        refine r_sld C hw hX hbl hbl g56 dL_law_405 ?_
        obtain ⟨r58, μ57, e59, hf⟩ := bn_some hf
        refine r_callL C hw (K := [(0, (sx xs (nrm (x3 + 1))))]) ok11 kk_0 (c_X11_fillings l D _ kk_0 e59) mi_X11_fillings in_X11_fillings se_X11_fillings kl_L_40 rfl rfl (lvh_sz hl) (by decide) (by decide) (Nat.le_of_ble_eq_true rfl) dL_law_406 (fun H locs hw => ?_)
        refine r_aload_n C hl (kx := 2) rfl rfl dL_law_409 ?_
        refine r_load3 C hl (kx := 0) rfl rfl dL_law_410 ?_
        refine r_iload_n C hl (kx := 3) rfl rfl dL_law_411 ?_
        refine r_iconst C dL_law_412 ?_
        refine r_iadd C dL_law_413 ?_
        refine r_sld C hw hX hbl hbl g56 dL_law_414 ?_
        obtain ⟨r61, μ60, e62, hf⟩ := bn_some hf
        refine r_callL C hw (K := [(0, (sx xs (nrm (x3 + 1))))]) ok12 kk_111 (c_X12_fillings l D _ kk_111 e62) mi_X12_fillings in_X12_fillings se_X12_fillings kl_L_43 rfl rfl (lvh_sz hl) (by decide) (by decide) (Nat.le_of_ble_eq_true rfl) dL_law_415 (fun H locs hw => ?_)
        refine r_icmp_eq C (tgt := 1356) (by decide) dL_law_418 (fun c63 => ?_) (fun c63 => ?_)
        · have hf := ite_t c63 hf
          refine r_iinc C hl (kx := 3) rfl (by decide) (L' := [(3, 0, (x3 + 6)), (0, 3, (b0 : Int)), (1, 2, 0), (2, 2, 111)]) rfl dL_law_1356 (fun ls hl => ?_)
          refine r_goto C (tgt := 18) (by decide) dL_law_1359 ?_
          exact ih _ _ _ _ _ hf hw (lvh_sub hl [1, 2, 3, 0] rfl)
        · have hf := ite_f c63 hf
          refine r_iconst C dL_law_421 ?_
          cases hf
      have hf := ite_f cs6 hf
      rcases Decidable.em (nrm (jand (sx xs (nrm x3)) 63) = 7) with cs7 | cs7
      · have hf := ite_t cs7 hf
        refine r_tabIn C (tgt := 423) cs7 (by decide) (by decide) rfl (by decide) dL_law_33 ?_
        refine r_aload_n C hl (kx := 1) rfl rfl dL_law_423 ?_
        refine r_load3 C hl (kx := 0) rfl rfl dL_law_424 ?_
        refine r_iload_n C hl (kx := 3) rfl rfl dL_law_425 ?_
        refine r_iconst C dL_law_426 ?_
        refine r_iadd C dL_law_427 ?_
        obtain ⟨g64, hf⟩ := gd_some hf
        refine r_sld C hw hX hbl hbl g64 dL_law_428 ?_
        obtain ⟨r66, μ65, e67, hf⟩ := bn_some hf
        refine r_callL C hw (K := [(0, (sx xs (nrm (x3 + 1))))]) ok11 kk_0 (c_X11_go l D _ kk_0 e67) mi_X11_go in_X11_go se_X11_go kl_L_44 rfl rfl (lvh_sz hl) (by decide) (by decide) (Nat.le_of_ble_eq_true rfl) dL_law_429 (fun H locs hw => ?_)
        refine r_aload_n C hl (kx := 2) rfl rfl dL_law_432 ?_
        refine r_load3 C hl (kx := 0) rfl rfl dL_law_433 ?_
        refine r_iload_n C hl (kx := 3) rfl rfl dL_law_434 ?_
        refine r_iconst C dL_law_435 ?_
        refine r_iadd C dL_law_436 ?_
        refine r_sld C hw hX hbl hbl g64 dL_law_437 ?_
        obtain ⟨r69, μ68, e70, hf⟩ := bn_some hf
        refine r_callL C hw (K := [(0, (sx xs (nrm (x3 + 1))))]) ok12 kk_111 (c_X12_go l D _ kk_111 e70) mi_X12_go in_X12_go se_X12_go kl_L_47 rfl rfl (lvh_sz hl) (by decide) (by decide) (Nat.le_of_ble_eq_true rfl) dL_law_438 (fun H locs hw => ?_)
        refine r_icmp_eq C (tgt := 1356) (by decide) dL_law_441 (fun c71 => ?_) (fun c71 => ?_)
        · have hf := ite_t c71 hf
          refine r_iinc C hl (kx := 3) rfl (by decide) (L' := [(3, 0, (x3 + 6)), (0, 3, (b0 : Int)), (1, 2, 0), (2, 2, 111)]) rfl dL_law_1356 (fun ls hl => ?_)
          refine r_goto C (tgt := 18) (by decide) dL_law_1359 ?_
          exact ih _ _ _ _ _ hf hw (lvh_sub hl [1, 2, 3, 0] rfl)
        · have hf := ite_f c71 hf
          refine r_iconst C dL_law_444 ?_
          cases hf
      have hf := ite_f cs7 hf
      rcases Decidable.em (nrm (jand (sx xs (nrm x3)) 63) = 8) with cs8 | cs8
      · have hf := ite_t cs8 hf
        refine r_tabIn C (tgt := 446) cs8 (by decide) (by decide) rfl (by decide) dL_law_33 ?_
        refine r_aload_n C hl (kx := 1) rfl rfl dL_law_446 ?_
        refine r_load3 C hl (kx := 0) rfl rfl dL_law_447 ?_
        refine r_iload_n C hl (kx := 3) rfl rfl dL_law_448 ?_
        refine r_iconst C dL_law_449 ?_
        refine r_iadd C dL_law_450 ?_
        obtain ⟨g72, hf⟩ := gd_some hf
        refine r_sld C hw hX hbl hbl g72 dL_law_451 ?_
        obtain ⟨r74, μ73, e75, hf⟩ := bn_some hf
        refine r_callL C hw (K := [(0, (sx xs (nrm (x3 + 1))))]) ok11 kk_0 (c_X11_fill l D _ kk_0 e75) mi_X11_fill in_X11_fill se_X11_fill kl_L_48 rfl rfl (lvh_sz hl) (by decide) (by decide) (Nat.le_of_ble_eq_true rfl) dL_law_452 (fun H locs hw => ?_)
        refine r_aload_n C hl (kx := 2) rfl rfl dL_law_455 ?_
        refine r_load3 C hl (kx := 0) rfl rfl dL_law_456 ?_
        refine r_iload_n C hl (kx := 3) rfl rfl dL_law_457 ?_
        refine r_iconst C dL_law_458 ?_
        refine r_iadd C dL_law_459 ?_
        refine r_sld C hw hX hbl hbl g72 dL_law_460 ?_
        obtain ⟨r77, μ76, e78, hf⟩ := bn_some hf
        refine r_callL C hw (K := [(0, (sx xs (nrm (x3 + 1))))]) ok12 kk_111 (c_X12_fill l D _ kk_111 e78) mi_X12_fill in_X12_fill se_X12_fill kl_L_51 rfl rfl (lvh_sz hl) (by decide) (by decide) (Nat.le_of_ble_eq_true rfl) dL_law_461 (fun H locs hw => ?_)
        refine r_icmp_eq C (tgt := 1356) (by decide) dL_law_464 (fun c79 => ?_) (fun c79 => ?_)
        · have hf := ite_t c79 hf
          refine r_iinc C hl (kx := 3) rfl (by decide) (L' := [(3, 0, (x3 + 6)), (0, 3, (b0 : Int)), (1, 2, 0), (2, 2, 111)]) rfl dL_law_1356 (fun ls hl => ?_)
          refine r_goto C (tgt := 18) (by decide) dL_law_1359 ?_
          exact ih _ _ _ _ _ hf hw (lvh_sub hl [1, 2, 3, 0] rfl)
        · have hf := ite_f c79 hf
          refine r_iconst C dL_law_467 ?_
          cases hf
      have hf := ite_f cs8 hf
      rcases Decidable.em (nrm (jand (sx xs (nrm x3)) 63) = 9) with cs9 | cs9
      · have hf := ite_t cs9 hf
        refine r_tabIn C (tgt := 469) cs9 (by decide) (by decide) rfl (by decide) dL_law_33 ?_
        refine r_aload_n C hl (kx := 1) rfl rfl dL_law_469 ?_
        refine r_load3 C hl (kx := 0) rfl rfl dL_law_470 ?_
        refine r_iload_n C hl (kx := 3) rfl rfl dL_law_471 ?_
        refine r_iconst C dL_law_472 ?_
        refine r_iadd C dL_law_473 ?_
        obtain ⟨g80, hf⟩ := gd_some hf
        refine r_sld C hw hX hbl hbl g80 dL_law_474 ?_
        obtain ⟨r82, μ81, e83, hf⟩ := bn_some hf
        refine r_callL C hw (K := [(0, (sx xs (nrm (x3 + 1))))]) ok11 kk_0 (c_X11_dig l D _ kk_0 e83) mi_X11_dig in_X11_dig se_X11_dig kl_L_52 rfl rfl (lvh_sz hl) (by decide) (by decide) (Nat.le_of_ble_eq_true rfl) dL_law_475 (fun H locs hw => ?_)
        refine r_aload_n C hl (kx := 2) rfl rfl dL_law_478 ?_
        refine r_load3 C hl (kx := 0) rfl rfl dL_law_479 ?_
        refine r_iload_n C hl (kx := 3) rfl rfl dL_law_480 ?_
        refine r_iconst C dL_law_481 ?_
        refine r_iadd C dL_law_482 ?_
        refine r_sld C hw hX hbl hbl g80 dL_law_483 ?_
        obtain ⟨r85, μ84, e86, hf⟩ := bn_some hf
        refine r_callL C hw (K := [(0, (sx xs (nrm (x3 + 1))))]) ok12 kk_111 (c_X12_dig l D _ kk_111 e86) mi_X12_dig in_X12_dig se_X12_dig kl_L_55 rfl rfl (lvh_sz hl) (by decide) (by decide) (Nat.le_of_ble_eq_true rfl) dL_law_484 (fun H locs hw => ?_)
        refine r_icmp_eq C (tgt := 1356) (by decide) dL_law_487 (fun c87 => ?_) (fun c87 => ?_)
        · have hf := ite_t c87 hf
          refine r_iinc C hl (kx := 3) rfl (by decide) (L' := [(3, 0, (x3 + 6)), (0, 3, (b0 : Int)), (1, 2, 0), (2, 2, 111)]) rfl dL_law_1356 (fun ls hl => ?_)
          refine r_goto C (tgt := 18) (by decide) dL_law_1359 ?_
          exact ih _ _ _ _ _ hf hw (lvh_sub hl [1, 2, 3, 0] rfl)
        · have hf := ite_f c87 hf
          refine r_iconst C dL_law_490 ?_
          cases hf
      have hf := ite_f cs9 hf
      rcases Decidable.em (nrm (jand (sx xs (nrm x3)) 63) = 10) with cs10 | cs10
      · have hf := ite_t cs10 hf
        refine r_tabIn C (tgt := 492) cs10 (by decide) (by decide) rfl (by decide) dL_law_33 ?_
        refine r_aload_n C hl (kx := 1) rfl rfl dL_law_492 ?_
        refine r_load3 C hl (kx := 0) rfl rfl dL_law_493 ?_
        refine r_iload_n C hl (kx := 3) rfl rfl dL_law_494 ?_
        refine r_iconst C dL_law_495 ?_
        refine r_iadd C dL_law_496 ?_
        obtain ⟨g88, hf⟩ := gd_some hf
        refine r_sld C hw hX hbl hbl g88 dL_law_497 ?_
        obtain ⟨r90, μ89, e91, hf⟩ := bn_some hf
        refine r_callL C hw (K := [(0, (sx xs (nrm (x3 + 1))))]) ok11 kk_0 (c_X11_turn l D _ kk_0 e91) mi_X11_turn in_X11_turn se_X11_turn kl_L_56 rfl rfl (lvh_sz hl) (by decide) (by decide) (Nat.le_of_ble_eq_true rfl) dL_law_498 (fun H locs hw => ?_)
        refine r_aload_n C hl (kx := 2) rfl rfl dL_law_501 ?_
        refine r_load3 C hl (kx := 0) rfl rfl dL_law_502 ?_
        refine r_iload_n C hl (kx := 3) rfl rfl dL_law_503 ?_
        refine r_iconst C dL_law_504 ?_
        refine r_iadd C dL_law_505 ?_
        refine r_sld C hw hX hbl hbl g88 dL_law_506 ?_
        obtain ⟨r93, μ92, e94, hf⟩ := bn_some hf
        refine r_callL C hw (K := [(0, (sx xs (nrm (x3 + 1))))]) ok12 kk_111 (c_X12_turn l D _ kk_111 e94) mi_X12_turn in_X12_turn se_X12_turn kl_L_59 rfl rfl (lvh_sz hl) (by decide) (by decide) (Nat.le_of_ble_eq_true rfl) dL_law_507 (fun H locs hw => ?_)
        refine r_icmp_eq C (tgt := 1356) (by decide) dL_law_510 (fun c95 => ?_) (fun c95 => ?_)
        · have hf := ite_t c95 hf
          refine r_iinc C hl (kx := 3) rfl (by decide) (L' := [(3, 0, (x3 + 6)), (0, 3, (b0 : Int)), (1, 2, 0), (2, 2, 111)]) rfl dL_law_1356 (fun ls hl => ?_)
          refine r_goto C (tgt := 18) (by decide) dL_law_1359 ?_
          exact ih _ _ _ _ _ hf hw (lvh_sub hl [1, 2, 3, 0] rfl)
        · have hf := ite_f c95 hf
          refine r_iconst C dL_law_513 ?_
          cases hf
      have hf := ite_f cs10 hf
      rcases Decidable.em (nrm (jand (sx xs (nrm x3)) 63) = 11) with cs11 | cs11
      · have hf := ite_t cs11 hf
        refine r_tabIn C (tgt := 515) cs11 (by decide) (by decide) rfl (by decide) dL_law_33 ?_
        refine r_aload_n C hl (kx := 1) rfl rfl dL_law_515 ?_
        refine r_load3 C hl (kx := 0) rfl rfl dL_law_516 ?_
        refine r_iload_n C hl (kx := 3) rfl rfl dL_law_517 ?_
        refine r_iconst C dL_law_518 ?_
        refine r_iadd C dL_law_519 ?_
        obtain ⟨g96, hf⟩ := gd_some hf
        refine r_sld C hw hX hbl hbl g96 dL_law_520 ?_
        obtain ⟨r98, μ97, e99, hf⟩ := bn_some hf
        refine r_callL C hw (K := [(0, (sx xs (nrm (x3 + 1))))]) ok11 kk_0 (c_X11_seasons l D _ kk_0 e99) mi_X11_seasons in_X11_seasons se_X11_seasons kl_L_60 rfl rfl (lvh_sz hl) (by decide) (by decide) (Nat.le_of_ble_eq_true rfl) dL_law_521 (fun H locs hw => ?_)
        refine r_aload_n C hl (kx := 2) rfl rfl dL_law_524 ?_
        refine r_load3 C hl (kx := 0) rfl rfl dL_law_525 ?_
        refine r_iload_n C hl (kx := 3) rfl rfl dL_law_526 ?_
        refine r_iconst C dL_law_527 ?_
        refine r_iadd C dL_law_528 ?_
        refine r_sld C hw hX hbl hbl g96 dL_law_529 ?_
        obtain ⟨r101, μ100, e102, hf⟩ := bn_some hf
        refine r_callL C hw (K := [(0, (sx xs (nrm (x3 + 1))))]) ok12 kk_111 (c_X12_seasons l D _ kk_111 e102) mi_X12_seasons in_X12_seasons se_X12_seasons kl_L_63 rfl rfl (lvh_sz hl) (by decide) (by decide) (Nat.le_of_ble_eq_true rfl) dL_law_530 (fun H locs hw => ?_)
        refine r_icmp_eq C (tgt := 1356) (by decide) dL_law_533 (fun c103 => ?_) (fun c103 => ?_)
        · have hf := ite_t c103 hf
          refine r_iinc C hl (kx := 3) rfl (by decide) (L' := [(3, 0, (x3 + 6)), (0, 3, (b0 : Int)), (1, 2, 0), (2, 2, 111)]) rfl dL_law_1356 (fun ls hl => ?_)
          refine r_goto C (tgt := 18) (by decide) dL_law_1359 ?_
          exact ih _ _ _ _ _ hf hw (lvh_sub hl [1, 2, 3, 0] rfl)
        · have hf := ite_f c103 hf
          refine r_iconst C dL_law_536 ?_
          cases hf
      have hf := ite_f cs11 hf
      rcases Decidable.em (nrm (jand (sx xs (nrm x3)) 63) = 12) with cs12 | cs12
      · have hf := ite_t cs12 hf
        refine r_tabIn C (tgt := 538) cs12 (by decide) (by decide) rfl (by decide) dL_law_33 ?_
        refine r_aload_n C hl (kx := 1) rfl rfl dL_law_538 ?_
        refine r_load3 C hl (kx := 0) rfl rfl dL_law_539 ?_
        refine r_iload_n C hl (kx := 3) rfl rfl dL_law_540 ?_
        refine r_iconst C dL_law_541 ?_
        refine r_iadd C dL_law_542 ?_
        obtain ⟨g104, hf⟩ := gd_some hf
        refine r_sld C hw hX hbl hbl g104 dL_law_543 ?_
        obtain ⟨r106, μ105, e107, hf⟩ := bn_some hf
        refine r_callL C hw (K := [(0, (sx xs (nrm (x3 + 1))))]) ok11 kk_0 (c_X11_rain l D _ kk_0 e107) mi_X11_rain in_X11_rain se_X11_rain kl_L_64 rfl rfl (lvh_sz hl) (by decide) (by decide) (Nat.le_of_ble_eq_true rfl) dL_law_544 (fun H locs hw => ?_)
        refine r_aload_n C hl (kx := 2) rfl rfl dL_law_547 ?_
        refine r_load3 C hl (kx := 0) rfl rfl dL_law_548 ?_
        refine r_iload_n C hl (kx := 3) rfl rfl dL_law_549 ?_
        refine r_iconst C dL_law_550 ?_
        refine r_iadd C dL_law_551 ?_
        refine r_sld C hw hX hbl hbl g104 dL_law_552 ?_
        obtain ⟨r109, μ108, e110, hf⟩ := bn_some hf
        refine r_callL C hw (K := [(0, (sx xs (nrm (x3 + 1))))]) ok12 kk_111 (c_X12_rain l D _ kk_111 e110) mi_X12_rain in_X12_rain se_X12_rain kl_L_67 rfl rfl (lvh_sz hl) (by decide) (by decide) (Nat.le_of_ble_eq_true rfl) dL_law_553 (fun H locs hw => ?_)
        refine r_icmp_eq C (tgt := 1356) (by decide) dL_law_556 (fun c111 => ?_) (fun c111 => ?_)
        · have hf := ite_t c111 hf
          refine r_iinc C hl (kx := 3) rfl (by decide) (L' := [(3, 0, (x3 + 6)), (0, 3, (b0 : Int)), (1, 2, 0), (2, 2, 111)]) rfl dL_law_1356 (fun ls hl => ?_)
          refine r_goto C (tgt := 18) (by decide) dL_law_1359 ?_
          exact ih _ _ _ _ _ hf hw (lvh_sub hl [1, 2, 3, 0] rfl)
        · have hf := ite_f c111 hf
          refine r_iconst C dL_law_559 ?_
          cases hf
      have hf := ite_f cs12 hf
      rcases Decidable.em (nrm (jand (sx xs (nrm x3)) 63) = 13) with cs13 | cs13
      · have hf := ite_t cs13 hf
        refine r_tabIn C (tgt := 561) cs13 (by decide) (by decide) rfl (by decide) dL_law_33 ?_
        refine r_aload_n C hl (kx := 1) rfl rfl dL_law_561 ?_
        refine r_load3 C hl (kx := 0) rfl rfl dL_law_562 ?_
        refine r_iload_n C hl (kx := 3) rfl rfl dL_law_563 ?_
        refine r_iconst C dL_law_564 ?_
        refine r_iadd C dL_law_565 ?_
        obtain ⟨g112, hf⟩ := gd_some hf
        refine r_sld C hw hX hbl hbl g112 dL_law_566 ?_
        obtain ⟨r114, μ113, e115, hf⟩ := bn_some hf
        refine r_callL C hw (K := [(0, (sx xs (nrm (x3 + 1))))]) ok11 kk_0 (c_X11_undo l D _ kk_0 e115) mi_X11_undo in_X11_undo se_X11_undo kl_L_68 rfl rfl (lvh_sz hl) (by decide) (by decide) (Nat.le_of_ble_eq_true rfl) dL_law_567 (fun H locs hw => ?_)
        refine r_aload_n C hl (kx := 2) rfl rfl dL_law_570 ?_
        refine r_load3 C hl (kx := 0) rfl rfl dL_law_571 ?_
        refine r_iload_n C hl (kx := 3) rfl rfl dL_law_572 ?_
        refine r_iconst C dL_law_573 ?_
        refine r_iadd C dL_law_574 ?_
        refine r_sld C hw hX hbl hbl g112 dL_law_575 ?_
        obtain ⟨r117, μ116, e118, hf⟩ := bn_some hf
        refine r_callL C hw (K := [(0, (sx xs (nrm (x3 + 1))))]) ok12 kk_111 (c_X12_undo l D _ kk_111 e118) mi_X12_undo in_X12_undo se_X12_undo kl_L_71 rfl rfl (lvh_sz hl) (by decide) (by decide) (Nat.le_of_ble_eq_true rfl) dL_law_576 (fun H locs hw => ?_)
        refine r_icmp_eq C (tgt := 1356) (by decide) dL_law_579 (fun c119 => ?_) (fun c119 => ?_)
        · have hf := ite_t c119 hf
          refine r_iinc C hl (kx := 3) rfl (by decide) (L' := [(3, 0, (x3 + 6)), (0, 3, (b0 : Int)), (1, 2, 0), (2, 2, 111)]) rfl dL_law_1356 (fun ls hl => ?_)
          refine r_goto C (tgt := 18) (by decide) dL_law_1359 ?_
          exact ih _ _ _ _ _ hf hw (lvh_sub hl [1, 2, 3, 0] rfl)
        · have hf := ite_f c119 hf
          refine r_iconst C dL_law_582 ?_
          cases hf
      have hf := ite_f cs13 hf
      rcases Decidable.em (nrm (jand (sx xs (nrm x3)) 63) = 14) with cs14 | cs14
      · have hf := ite_t cs14 hf
        refine r_tabIn C (tgt := 584) cs14 (by decide) (by decide) rfl (by decide) dL_law_33 ?_
        refine r_aload_n C hl (kx := 1) rfl rfl dL_law_584 ?_
        refine r_load3 C hl (kx := 0) rfl rfl dL_law_585 ?_
        refine r_iload_n C hl (kx := 3) rfl rfl dL_law_586 ?_
        refine r_iconst C dL_law_587 ?_
        refine r_iadd C dL_law_588 ?_
        obtain ⟨g120, hf⟩ := gd_some hf
        refine r_sld C hw hX hbl hbl g120 dL_law_589 ?_
        refine r_load3 C hl (kx := 0) rfl rfl dL_law_590 ?_
        refine r_iload_n C hl (kx := 3) rfl rfl dL_law_591 ?_
        refine r_iconst C dL_law_592 ?_
        refine r_iadd C dL_law_593 ?_
        obtain ⟨g121, hf⟩ := gd_some hf
        refine r_sld C hw hX hbl hbl g121 dL_law_594 ?_
        obtain ⟨r123, μ122, e124, hf⟩ := bn_some hf
        refine r_callL C hw (K := [(0, (sx xs (nrm (x3 + 1)))), (0, (sx xs (nrm (x3 + 2))))]) ok11 kk_0 (c_X11_judge l D _ kk_0 e124) mi_X11_judge in_X11_judge se_X11_judge kl_L_72 rfl rfl (lvh_sz hl) (by decide) (by decide) (Nat.le_of_ble_eq_true rfl) dL_law_595 (fun H locs hw => ?_)
        refine r_aload_n C hl (kx := 2) rfl rfl dL_law_598 ?_
        refine r_load3 C hl (kx := 0) rfl rfl dL_law_599 ?_
        refine r_iload_n C hl (kx := 3) rfl rfl dL_law_600 ?_
        refine r_iconst C dL_law_601 ?_
        refine r_iadd C dL_law_602 ?_
        refine r_sld C hw hX hbl hbl g120 dL_law_603 ?_
        refine r_load3 C hl (kx := 0) rfl rfl dL_law_604 ?_
        refine r_iload_n C hl (kx := 3) rfl rfl dL_law_605 ?_
        refine r_iconst C dL_law_606 ?_
        refine r_iadd C dL_law_607 ?_
        refine r_sld C hw hX hbl hbl g121 dL_law_608 ?_
        obtain ⟨r126, μ125, e127, hf⟩ := bn_some hf
        refine r_callL C hw (K := [(0, (sx xs (nrm (x3 + 1)))), (0, (sx xs (nrm (x3 + 2))))]) ok12 kk_111 (c_X12_judge l D _ kk_111 e127) mi_X12_judge in_X12_judge se_X12_judge kl_L_75 rfl rfl (lvh_sz hl) (by decide) (by decide) (Nat.le_of_ble_eq_true rfl) dL_law_609 (fun H locs hw => ?_)
        refine r_icmp_eq C (tgt := 1356) (by decide) dL_law_612 (fun c128 => ?_) (fun c128 => ?_)
        · have hf := ite_t c128 hf
          refine r_iinc C hl (kx := 3) rfl (by decide) (L' := [(3, 0, (x3 + 6)), (0, 3, (b0 : Int)), (1, 2, 0), (2, 2, 111)]) rfl dL_law_1356 (fun ls hl => ?_)
          refine r_goto C (tgt := 18) (by decide) dL_law_1359 ?_
          exact ih _ _ _ _ _ hf hw (lvh_sub hl [1, 2, 3, 0] rfl)
        · have hf := ite_f c128 hf
          refine r_iconst C dL_law_615 ?_
          cases hf
      have hf := ite_f cs14 hf
      rcases Decidable.em (nrm (jand (sx xs (nrm x3)) 63) = 15) with cs15 | cs15
      · have hf := ite_t cs15 hf
        refine r_tabIn C (tgt := 617) cs15 (by decide) (by decide) rfl (by decide) dL_law_33 ?_
        refine r_aload_n C hl (kx := 1) rfl rfl dL_law_617 ?_
        refine r_load3 C hl (kx := 0) rfl rfl dL_law_618 ?_
        refine r_iload_n C hl (kx := 3) rfl rfl dL_law_619 ?_
        refine r_iconst C dL_law_620 ?_
        refine r_iadd C dL_law_621 ?_
        obtain ⟨g129, hf⟩ := gd_some hf
        refine r_sld C hw hX hbl hbl g129 dL_law_622 ?_
        obtain ⟨r131, μ130, e132, hf⟩ := bn_some hf
        refine r_callL C hw (K := [(0, (sx xs (nrm (x3 + 1))))]) ok11 kk_0 (c_X11_perform l D _ kk_0 e132) mi_X11_perform in_X11_perform se_X11_perform kl_L_76 rfl rfl (lvh_sz hl) (by decide) (by decide) (Nat.le_of_ble_eq_true rfl) dL_law_623 (fun H locs hw => ?_)
        refine r_aload_n C hl (kx := 2) rfl rfl dL_law_626 ?_
        refine r_load3 C hl (kx := 0) rfl rfl dL_law_627 ?_
        refine r_iload_n C hl (kx := 3) rfl rfl dL_law_628 ?_
        refine r_iconst C dL_law_629 ?_
        refine r_iadd C dL_law_630 ?_
        refine r_sld C hw hX hbl hbl g129 dL_law_631 ?_
        obtain ⟨r134, μ133, e135, hf⟩ := bn_some hf
        refine r_callL C hw (K := [(0, (sx xs (nrm (x3 + 1))))]) ok12 kk_111 (c_X12_perform l D _ kk_111 e135) mi_X12_perform in_X12_perform se_X12_perform kl_L_79 rfl rfl (lvh_sz hl) (by decide) (by decide) (Nat.le_of_ble_eq_true rfl) dL_law_632 (fun H locs hw => ?_)
        refine r_icmp_eq C (tgt := 1356) (by decide) dL_law_635 (fun c136 => ?_) (fun c136 => ?_)
        · have hf := ite_t c136 hf
          refine r_iinc C hl (kx := 3) rfl (by decide) (L' := [(3, 0, (x3 + 6)), (0, 3, (b0 : Int)), (1, 2, 0), (2, 2, 111)]) rfl dL_law_1356 (fun ls hl => ?_)
          refine r_goto C (tgt := 18) (by decide) dL_law_1359 ?_
          exact ih _ _ _ _ _ hf hw (lvh_sub hl [1, 2, 3, 0] rfl)
        · have hf := ite_f c136 hf
          refine r_iconst C dL_law_638 ?_
          cases hf
      have hf := ite_f cs15 hf
      rcases Decidable.em (nrm (jand (sx xs (nrm x3)) 63) = 16) with cs16 | cs16
      · have hf := ite_t cs16 hf
        refine r_tabIn C (tgt := 640) cs16 (by decide) (by decide) rfl (by decide) dL_law_33 ?_
        refine r_aload_n C hl (kx := 1) rfl rfl dL_law_640 ?_
        refine r_load3 C hl (kx := 0) rfl rfl dL_law_641 ?_
        refine r_iload_n C hl (kx := 3) rfl rfl dL_law_642 ?_
        refine r_iconst C dL_law_643 ?_
        refine r_iadd C dL_law_644 ?_
        obtain ⟨g137, hf⟩ := gd_some hf
        refine r_sld C hw hX hbl hbl g137 dL_law_645 ?_
        refine r_load3 C hl (kx := 0) rfl rfl dL_law_646 ?_
        refine r_iload_n C hl (kx := 3) rfl rfl dL_law_647 ?_
        refine r_iconst C dL_law_648 ?_
        refine r_iadd C dL_law_649 ?_
        obtain ⟨g138, hf⟩ := gd_some hf
        refine r_sld C hw hX hbl hbl g138 dL_law_650 ?_
        obtain ⟨r140, μ139, e141, hf⟩ := bn_some hf
        refine r_callL C hw (K := [(0, (sx xs (nrm (x3 + 1)))), (0, (sx xs (nrm (x3 + 2))))]) ok11 kk_0 (c_X11_year l D _ kk_0 e141) mi_X11_year in_X11_year se_X11_year kl_L_80 rfl rfl (lvh_sz hl) (by decide) (by decide) (Nat.le_of_ble_eq_true rfl) dL_law_651 (fun H locs hw => ?_)
        refine r_aload_n C hl (kx := 2) rfl rfl dL_law_654 ?_
        refine r_load3 C hl (kx := 0) rfl rfl dL_law_655 ?_
        refine r_iload_n C hl (kx := 3) rfl rfl dL_law_656 ?_
        refine r_iconst C dL_law_657 ?_
        refine r_iadd C dL_law_658 ?_
        refine r_sld C hw hX hbl hbl g137 dL_law_659 ?_
        refine r_load3 C hl (kx := 0) rfl rfl dL_law_660 ?_
        refine r_iload_n C hl (kx := 3) rfl rfl dL_law_661 ?_
        refine r_iconst C dL_law_662 ?_
        refine r_iadd C dL_law_663 ?_
        refine r_sld C hw hX hbl hbl g138 dL_law_664 ?_
        obtain ⟨r143, μ142, e144, hf⟩ := bn_some hf
        refine r_callL C hw (K := [(0, (sx xs (nrm (x3 + 1)))), (0, (sx xs (nrm (x3 + 2))))]) ok12 kk_111 (c_X12_year l D _ kk_111 e144) mi_X12_year in_X12_year se_X12_year kl_L_83 rfl rfl (lvh_sz hl) (by decide) (by decide) (Nat.le_of_ble_eq_true rfl) dL_law_665 (fun H locs hw => ?_)
        refine r_icmp_eq C (tgt := 1356) (by decide) dL_law_668 (fun c145 => ?_) (fun c145 => ?_)
        · have hf := ite_t c145 hf
          refine r_iinc C hl (kx := 3) rfl (by decide) (L' := [(3, 0, (x3 + 6)), (0, 3, (b0 : Int)), (1, 2, 0), (2, 2, 111)]) rfl dL_law_1356 (fun ls hl => ?_)
          refine r_goto C (tgt := 18) (by decide) dL_law_1359 ?_
          exact ih _ _ _ _ _ hf hw (lvh_sub hl [1, 2, 3, 0] rfl)
        · have hf := ite_f c145 hf
          refine r_iconst C dL_law_671 ?_
          cases hf
      have hf := ite_f cs16 hf
      rcases Decidable.em (nrm (jand (sx xs (nrm x3)) 63) = 17) with cs17 | cs17
      · have hf := ite_t cs17 hf
        refine r_tabIn C (tgt := 673) cs17 (by decide) (by decide) rfl (by decide) dL_law_33 ?_
        refine r_aload_n C hl (kx := 1) rfl rfl dL_law_673 ?_
        obtain ⟨r147, μ146, e148, hf⟩ := bn_some hf
        refine r_callL C hw (K := []) ok11 kk_0 (c_X11_reach l D _ kk_0 e148) mi_X11_reach in_X11_reach se_X11_reach kl_L_84 rfl rfl (lvh_sz hl) (by decide) (by decide) (Nat.le_of_ble_eq_true rfl) dL_law_674 (fun H locs hw => ?_)
        refine r_aload_n C hl (kx := 2) rfl rfl dL_law_677 ?_
        obtain ⟨r150, μ149, e151, hf⟩ := bn_some hf
        refine r_callL C hw (K := []) ok12 kk_111 (c_X12_reach l D _ kk_111 e151) mi_X12_reach in_X12_reach se_X12_reach kl_L_88 rfl rfl (lvh_sz hl) (by decide) (by decide) (Nat.le_of_ble_eq_true rfl) dL_law_678 (fun H locs hw => ?_)
        refine r_icmp_eq C (tgt := 1356) (by decide) dL_law_681 (fun c152 => ?_) (fun c152 => ?_)
        · have hf := ite_t c152 hf
          refine r_iinc C hl (kx := 3) rfl (by decide) (L' := [(3, 0, (x3 + 6)), (0, 3, (b0 : Int)), (1, 2, 0), (2, 2, 111)]) rfl dL_law_1356 (fun ls hl => ?_)
          refine r_goto C (tgt := 18) (by decide) dL_law_1359 ?_
          exact ih _ _ _ _ _ hf hw (lvh_sub hl [1, 2, 3, 0] rfl)
        · have hf := ite_f c152 hf
          refine r_iconst C dL_law_684 ?_
          cases hf
      have hf := ite_f cs17 hf
      rcases Decidable.em (nrm (jand (sx xs (nrm x3)) 63) = 18) with cs18 | cs18
      · have hf := ite_t cs18 hf
        refine r_tabIn C (tgt := 686) cs18 (by decide) (by decide) rfl (by decide) dL_law_33 ?_
        refine r_aload_n C hl (kx := 1) rfl rfl dL_law_686 ?_
        refine r_load3 C hl (kx := 0) rfl rfl dL_law_687 ?_
        refine r_iload_n C hl (kx := 3) rfl rfl dL_law_688 ?_
        refine r_iconst C dL_law_689 ?_
        refine r_iadd C dL_law_690 ?_
        obtain ⟨g153, hf⟩ := gd_some hf
        refine r_sld C hw hX hbl hbl g153 dL_law_691 ?_
        obtain ⟨r155, μ154, e156, hf⟩ := bn_some hf
        refine r_callL C hw (K := [(0, (sx xs (nrm (x3 + 1))))]) ok11 kk_0 (c_X11_soonest l D _ kk_0 e156) mi_X11_soonest in_X11_soonest se_X11_soonest kl_L_89 rfl rfl (lvh_sz hl) (by decide) (by decide) (Nat.le_of_ble_eq_true rfl) dL_law_692 (fun H locs hw => ?_)
        refine r_aload_n C hl (kx := 2) rfl rfl dL_law_695 ?_
        refine r_load3 C hl (kx := 0) rfl rfl dL_law_696 ?_
        refine r_iload_n C hl (kx := 3) rfl rfl dL_law_697 ?_
        refine r_iconst C dL_law_698 ?_
        refine r_iadd C dL_law_699 ?_
        refine r_sld C hw hX hbl hbl g153 dL_law_700 ?_
        obtain ⟨r158, μ157, e159, hf⟩ := bn_some hf
        refine r_callL C hw (K := [(0, (sx xs (nrm (x3 + 1))))]) ok12 kk_111 (c_X12_soonest l D _ kk_111 e159) mi_X12_soonest in_X12_soonest se_X12_soonest kl_L_92 rfl rfl (lvh_sz hl) (by decide) (by decide) (Nat.le_of_ble_eq_true rfl) dL_law_701 (fun H locs hw => ?_)
        refine r_icmp_eq C (tgt := 1356) (by decide) dL_law_704 (fun c160 => ?_) (fun c160 => ?_)
        · have hf := ite_t c160 hf
          refine r_iinc C hl (kx := 3) rfl (by decide) (L' := [(3, 0, (x3 + 6)), (0, 3, (b0 : Int)), (1, 2, 0), (2, 2, 111)]) rfl dL_law_1356 (fun ls hl => ?_)
          refine r_goto C (tgt := 18) (by decide) dL_law_1359 ?_
          exact ih _ _ _ _ _ hf hw (lvh_sub hl [1, 2, 3, 0] rfl)
        · have hf := ite_f c160 hf
          refine r_iconst C dL_law_707 ?_
          cases hf
      have hf := ite_f cs18 hf
      rcases Decidable.em (nrm (jand (sx xs (nrm x3)) 63) = 19) with cs19 | cs19
      · have hf := ite_t cs19 hf
        refine r_tabIn C (tgt := 709) cs19 (by decide) (by decide) rfl (by decide) dL_law_33 ?_
        refine r_aload_n C hl (kx := 1) rfl rfl dL_law_709 ?_
        refine r_load3 C hl (kx := 0) rfl rfl dL_law_710 ?_
        refine r_iload_n C hl (kx := 3) rfl rfl dL_law_711 ?_
        refine r_iconst C dL_law_712 ?_
        refine r_iadd C dL_law_713 ?_
        obtain ⟨g161, hf⟩ := gd_some hf
        refine r_sld C hw hX hbl hbl g161 dL_law_714 ?_
        refine r_load3 C hl (kx := 0) rfl rfl dL_law_715 ?_
        refine r_iload_n C hl (kx := 3) rfl rfl dL_law_716 ?_
        refine r_iconst C dL_law_717 ?_
        refine r_iadd C dL_law_718 ?_
        obtain ⟨g162, hf⟩ := gd_some hf
        refine r_sld C hw hX hbl hbl g162 dL_law_719 ?_
        obtain ⟨r164, μ163, e165, hf⟩ := bn_some hf
        refine r_callL C hw (K := [(0, (sx xs (nrm (x3 + 1)))), (0, (sx xs (nrm (x3 + 2))))]) ok11 kk_0 (c_X11_rows l D _ kk_0 e165) mi_X11_rows in_X11_rows se_X11_rows kl_L_93 rfl rfl (lvh_sz hl) (by decide) (by decide) (Nat.le_of_ble_eq_true rfl) dL_law_720 (fun H locs hw => ?_)
        refine r_aload_n C hl (kx := 2) rfl rfl dL_law_723 ?_
        refine r_load3 C hl (kx := 0) rfl rfl dL_law_724 ?_
        refine r_iload_n C hl (kx := 3) rfl rfl dL_law_725 ?_
        refine r_iconst C dL_law_726 ?_
        refine r_iadd C dL_law_727 ?_
        refine r_sld C hw hX hbl hbl g161 dL_law_728 ?_
        refine r_load3 C hl (kx := 0) rfl rfl dL_law_729 ?_
        refine r_iload_n C hl (kx := 3) rfl rfl dL_law_730 ?_
        refine r_iconst C dL_law_731 ?_
        refine r_iadd C dL_law_732 ?_
        refine r_sld C hw hX hbl hbl g162 dL_law_733 ?_
        obtain ⟨r167, μ166, e168, hf⟩ := bn_some hf
        refine r_callL C hw (K := [(0, (sx xs (nrm (x3 + 1)))), (0, (sx xs (nrm (x3 + 2))))]) ok12 kk_111 (c_X12_rows l D _ kk_111 e168) mi_X12_rows in_X12_rows se_X12_rows kl_L_96 rfl rfl (lvh_sz hl) (by decide) (by decide) (Nat.le_of_ble_eq_true rfl) dL_law_734 (fun H locs hw => ?_)
        refine r_icmp_eq C (tgt := 1356) (by decide) dL_law_737 (fun c169 => ?_) (fun c169 => ?_)
        · have hf := ite_t c169 hf
          refine r_iinc C hl (kx := 3) rfl (by decide) (L' := [(3, 0, (x3 + 6)), (0, 3, (b0 : Int)), (1, 2, 0), (2, 2, 111)]) rfl dL_law_1356 (fun ls hl => ?_)
          refine r_goto C (tgt := 18) (by decide) dL_law_1359 ?_
          exact ih _ _ _ _ _ hf hw (lvh_sub hl [1, 2, 3, 0] rfl)
        · have hf := ite_f c169 hf
          refine r_iconst C dL_law_740 ?_
          cases hf
      have hf := ite_f cs19 hf
      rcases Decidable.em (nrm (jand (sx xs (nrm x3)) 63) = 20) with cs20 | cs20
      · have hf := ite_t cs20 hf
        refine r_tabIn C (tgt := 742) cs20 (by decide) (by decide) rfl (by decide) dL_law_33 ?_
        refine r_aload_n C hl (kx := 1) rfl rfl dL_law_742 ?_
        refine r_load3 C hl (kx := 0) rfl rfl dL_law_743 ?_
        refine r_iload_n C hl (kx := 3) rfl rfl dL_law_744 ?_
        refine r_iconst C dL_law_745 ?_
        refine r_iadd C dL_law_746 ?_
        obtain ⟨g170, hf⟩ := gd_some hf
        refine r_sld C hw hX hbl hbl g170 dL_law_747 ?_
        refine r_load3 C hl (kx := 0) rfl rfl dL_law_748 ?_
        refine r_iload_n C hl (kx := 3) rfl rfl dL_law_749 ?_
        refine r_iconst C dL_law_750 ?_
        refine r_iadd C dL_law_751 ?_
        obtain ⟨g171, hf⟩ := gd_some hf
        refine r_sld C hw hX hbl hbl g171 dL_law_752 ?_
        obtain ⟨r173, μ172, e174, hf⟩ := bn_some hf
        refine r_callL C hw (K := [(0, (sx xs (nrm (x3 + 1)))), (0, (sx xs (nrm (x3 + 2))))]) ok11 kk_0 (c_X11_way l D _ kk_0 e174) mi_X11_way in_X11_way se_X11_way kl_L_97 rfl rfl (lvh_sz hl) (by decide) (by decide) (Nat.le_of_ble_eq_true rfl) dL_law_753 (fun H locs hw => ?_)
        refine r_aload_n C hl (kx := 2) rfl rfl dL_law_756 ?_
        refine r_load3 C hl (kx := 0) rfl rfl dL_law_757 ?_
        refine r_iload_n C hl (kx := 3) rfl rfl dL_law_758 ?_
        refine r_iconst C dL_law_759 ?_
        refine r_iadd C dL_law_760 ?_
        refine r_sld C hw hX hbl hbl g170 dL_law_761 ?_
        refine r_load3 C hl (kx := 0) rfl rfl dL_law_762 ?_
        refine r_iload_n C hl (kx := 3) rfl rfl dL_law_763 ?_
        refine r_iconst C dL_law_764 ?_
        refine r_iadd C dL_law_765 ?_
        refine r_sld C hw hX hbl hbl g171 dL_law_766 ?_
        obtain ⟨r176, μ175, e177, hf⟩ := bn_some hf
        refine r_callL C hw (K := [(0, (sx xs (nrm (x3 + 1)))), (0, (sx xs (nrm (x3 + 2))))]) ok12 kk_111 (c_X12_way l D _ kk_111 e177) mi_X12_way in_X12_way se_X12_way kl_L_100 rfl rfl (lvh_sz hl) (by decide) (by decide) (Nat.le_of_ble_eq_true rfl) dL_law_767 (fun H locs hw => ?_)
        refine r_icmp_eq C (tgt := 1356) (by decide) dL_law_770 (fun c178 => ?_) (fun c178 => ?_)
        · have hf := ite_t c178 hf
          refine r_iinc C hl (kx := 3) rfl (by decide) (L' := [(3, 0, (x3 + 6)), (0, 3, (b0 : Int)), (1, 2, 0), (2, 2, 111)]) rfl dL_law_1356 (fun ls hl => ?_)
          refine r_goto C (tgt := 18) (by decide) dL_law_1359 ?_
          exact ih _ _ _ _ _ hf hw (lvh_sub hl [1, 2, 3, 0] rfl)
        · have hf := ite_f c178 hf
          refine r_iconst C dL_law_773 ?_
          cases hf
      have hf := ite_f cs20 hf
      rcases Decidable.em (nrm (jand (sx xs (nrm x3)) 63) = 21) with cs21 | cs21
      · have hf := ite_t cs21 hf
        refine r_tabIn C (tgt := 775) cs21 (by decide) (by decide) rfl (by decide) dL_law_33 ?_
        refine r_aload_n C hl (kx := 1) rfl rfl dL_law_775 ?_
        refine r_load3 C hl (kx := 0) rfl rfl dL_law_776 ?_
        refine r_iload_n C hl (kx := 3) rfl rfl dL_law_777 ?_
        refine r_iconst C dL_law_778 ?_
        refine r_iadd C dL_law_779 ?_
        obtain ⟨g179, hf⟩ := gd_some hf
        refine r_sld C hw hX hbl hbl g179 dL_law_780 ?_
        obtain ⟨r181, μ180, e182, hf⟩ := bn_some hf
        refine r_callL C hw (K := [(0, (sx xs (nrm (x3 + 1))))]) ok11 kk_0 (c_X11_toAndFro l D _ kk_0 e182) mi_X11_toAndFro in_X11_toAndFro se_X11_toAndFro kl_L_101 rfl rfl (lvh_sz hl) (by decide) (by decide) (Nat.le_of_ble_eq_true rfl) dL_law_781 (fun H locs hw => ?_)
        refine r_aload_n C hl (kx := 2) rfl rfl dL_law_784 ?_
        refine r_load3 C hl (kx := 0) rfl rfl dL_law_785 ?_
        refine r_iload_n C hl (kx := 3) rfl rfl dL_law_786 ?_
        refine r_iconst C dL_law_787 ?_
        refine r_iadd C dL_law_788 ?_
        refine r_sld C hw hX hbl hbl g179 dL_law_789 ?_
        obtain ⟨r184, μ183, e185, hf⟩ := bn_some hf
        refine r_callL C hw (K := [(0, (sx xs (nrm (x3 + 1))))]) ok12 kk_111 (c_X12_toAndFro l D _ kk_111 e185) mi_X12_toAndFro in_X12_toAndFro se_X12_toAndFro kl_L_104 rfl rfl (lvh_sz hl) (by decide) (by decide) (Nat.le_of_ble_eq_true rfl) dL_law_790 (fun H locs hw => ?_)
        refine r_icmp_eq C (tgt := 1356) (by decide) dL_law_793 (fun c186 => ?_) (fun c186 => ?_)
        · have hf := ite_t c186 hf
          refine r_iinc C hl (kx := 3) rfl (by decide) (L' := [(3, 0, (x3 + 6)), (0, 3, (b0 : Int)), (1, 2, 0), (2, 2, 111)]) rfl dL_law_1356 (fun ls hl => ?_)
          refine r_goto C (tgt := 18) (by decide) dL_law_1359 ?_
          exact ih _ _ _ _ _ hf hw (lvh_sub hl [1, 2, 3, 0] rfl)
        · have hf := ite_f c186 hf
          refine r_iconst C dL_law_796 ?_
          cases hf
      have hf := ite_f cs21 hf
      rcases Decidable.em (nrm (jand (sx xs (nrm x3)) 63) = 22) with cs22 | cs22
      · have hf := ite_t cs22 hf
        refine r_tabIn C (tgt := 798) cs22 (by decide) (by decide) rfl (by decide) dL_law_33 ?_
        refine r_aload_n C hl (kx := 1) rfl rfl dL_law_798 ?_
        refine r_load3 C hl (kx := 0) rfl rfl dL_law_799 ?_
        refine r_iload_n C hl (kx := 3) rfl rfl dL_law_800 ?_
        refine r_iconst C dL_law_801 ?_
        refine r_iadd C dL_law_802 ?_
        obtain ⟨g187, hf⟩ := gd_some hf
        refine r_sld C hw hX hbl hbl g187 dL_law_803 ?_
        refine r_load3 C hl (kx := 0) rfl rfl dL_law_804 ?_
        refine r_iload_n C hl (kx := 3) rfl rfl dL_law_805 ?_
        refine r_iconst C dL_law_806 ?_
        refine r_iadd C dL_law_807 ?_
        obtain ⟨g188, hf⟩ := gd_some hf
        refine r_sld C hw hX hbl hbl g188 dL_law_808 ?_
        obtain ⟨r190, μ189, e191, hf⟩ := bn_some hf
        refine r_callL C hw (K := [(0, (sx xs (nrm (x3 + 1)))), (0, (sx xs (nrm (x3 + 2))))]) ok11 kk_0 (c_X11_cheapest l D _ kk_0 e191) mi_X11_cheapest in_X11_cheapest se_X11_cheapest kl_L_105 rfl rfl (lvh_sz hl) (by decide) (by decide) (Nat.le_of_ble_eq_true rfl) dL_law_809 (fun H locs hw => ?_)
        refine r_aload_n C hl (kx := 2) rfl rfl dL_law_812 ?_
        refine r_load3 C hl (kx := 0) rfl rfl dL_law_813 ?_
        refine r_iload_n C hl (kx := 3) rfl rfl dL_law_814 ?_
        refine r_iconst C dL_law_815 ?_
        refine r_iadd C dL_law_816 ?_
        refine r_sld C hw hX hbl hbl g187 dL_law_817 ?_
        refine r_load3 C hl (kx := 0) rfl rfl dL_law_818 ?_
        refine r_iload_n C hl (kx := 3) rfl rfl dL_law_819 ?_
        refine r_iconst C dL_law_820 ?_
        refine r_iadd C dL_law_821 ?_
        refine r_sld C hw hX hbl hbl g188 dL_law_822 ?_
        obtain ⟨r193, μ192, e194, hf⟩ := bn_some hf
        refine r_callL C hw (K := [(0, (sx xs (nrm (x3 + 1)))), (0, (sx xs (nrm (x3 + 2))))]) ok12 kk_111 (c_X12_cheapest l D _ kk_111 e194) mi_X12_cheapest in_X12_cheapest se_X12_cheapest kl_L_108 rfl rfl (lvh_sz hl) (by decide) (by decide) (Nat.le_of_ble_eq_true rfl) dL_law_823 (fun H locs hw => ?_)
        refine r_icmp_eq C (tgt := 1356) (by decide) dL_law_826 (fun c195 => ?_) (fun c195 => ?_)
        · have hf := ite_t c195 hf
          refine r_iinc C hl (kx := 3) rfl (by decide) (L' := [(3, 0, (x3 + 6)), (0, 3, (b0 : Int)), (1, 2, 0), (2, 2, 111)]) rfl dL_law_1356 (fun ls hl => ?_)
          refine r_goto C (tgt := 18) (by decide) dL_law_1359 ?_
          exact ih _ _ _ _ _ hf hw (lvh_sub hl [1, 2, 3, 0] rfl)
        · have hf := ite_f c195 hf
          refine r_iconst C dL_law_829 ?_
          cases hf
      have hf := ite_f cs22 hf
      rcases Decidable.em (nrm (jand (sx xs (nrm x3)) 63) = 23) with cs23 | cs23
      · have hf := ite_t cs23 hf
        refine r_tabIn C (tgt := 831) cs23 (by decide) (by decide) rfl (by decide) dL_law_33 ?_
        refine r_aload_n C hl (kx := 1) rfl rfl dL_law_831 ?_
        refine r_load3 C hl (kx := 0) rfl rfl dL_law_832 ?_
        refine r_iload_n C hl (kx := 3) rfl rfl dL_law_833 ?_
        refine r_iconst C dL_law_834 ?_
        refine r_iadd C dL_law_835 ?_
        obtain ⟨g196, hf⟩ := gd_some hf
        refine r_sld C hw hX hbl hbl g196 dL_law_836 ?_
        refine r_load3 C hl (kx := 0) rfl rfl dL_law_837 ?_
        refine r_iload_n C hl (kx := 3) rfl rfl dL_law_838 ?_
        refine r_iconst C dL_law_839 ?_
        refine r_iadd C dL_law_840 ?_
        obtain ⟨g197, hf⟩ := gd_some hf
        refine r_sld C hw hX hbl hbl g197 dL_law_841 ?_
        obtain ⟨r199, μ198, e200, hf⟩ := bn_some hf
        refine r_callL C hw (K := [(0, (sx xs (nrm (x3 + 1)))), (0, (sx xs (nrm (x3 + 2))))]) ok11 kk_0 (c_X11_cheapBy l D _ kk_0 e200) mi_X11_cheapBy in_X11_cheapBy se_X11_cheapBy kl_L_109 rfl rfl (lvh_sz hl) (by decide) (by decide) (Nat.le_of_ble_eq_true rfl) dL_law_842 (fun H locs hw => ?_)
        refine r_aload_n C hl (kx := 2) rfl rfl dL_law_845 ?_
        refine r_load3 C hl (kx := 0) rfl rfl dL_law_846 ?_
        refine r_iload_n C hl (kx := 3) rfl rfl dL_law_847 ?_
        refine r_iconst C dL_law_848 ?_
        refine r_iadd C dL_law_849 ?_
        refine r_sld C hw hX hbl hbl g196 dL_law_850 ?_
        refine r_load3 C hl (kx := 0) rfl rfl dL_law_851 ?_
        refine r_iload_n C hl (kx := 3) rfl rfl dL_law_852 ?_
        refine r_iconst C dL_law_853 ?_
        refine r_iadd C dL_law_854 ?_
        refine r_sld C hw hX hbl hbl g197 dL_law_855 ?_
        obtain ⟨r202, μ201, e203, hf⟩ := bn_some hf
        refine r_callL C hw (K := [(0, (sx xs (nrm (x3 + 1)))), (0, (sx xs (nrm (x3 + 2))))]) ok12 kk_111 (c_X12_cheapBy l D _ kk_111 e203) mi_X12_cheapBy in_X12_cheapBy se_X12_cheapBy kl_L_112 rfl rfl (lvh_sz hl) (by decide) (by decide) (Nat.le_of_ble_eq_true rfl) dL_law_856 (fun H locs hw => ?_)
        refine r_icmp_eq C (tgt := 1356) (by decide) dL_law_859 (fun c204 => ?_) (fun c204 => ?_)
        · have hf := ite_t c204 hf
          refine r_iinc C hl (kx := 3) rfl (by decide) (L' := [(3, 0, (x3 + 6)), (0, 3, (b0 : Int)), (1, 2, 0), (2, 2, 111)]) rfl dL_law_1356 (fun ls hl => ?_)
          refine r_goto C (tgt := 18) (by decide) dL_law_1359 ?_
          exact ih _ _ _ _ _ hf hw (lvh_sub hl [1, 2, 3, 0] rfl)
        · have hf := ite_f c204 hf
          refine r_iconst C dL_law_862 ?_
          cases hf
      have hf := ite_f cs23 hf
      rcases Decidable.em (nrm (jand (sx xs (nrm x3)) 63) = 24) with cs24 | cs24
      · have hf := ite_t cs24 hf
        refine r_tabIn C (tgt := 864) cs24 (by decide) (by decide) rfl (by decide) dL_law_33 ?_
        refine r_aload_n C hl (kx := 1) rfl rfl dL_law_864 ?_
        refine r_load3 C hl (kx := 0) rfl rfl dL_law_865 ?_
        refine r_iload_n C hl (kx := 3) rfl rfl dL_law_866 ?_
        refine r_iconst C dL_law_867 ?_
        refine r_iadd C dL_law_868 ?_
        obtain ⟨g205, hf⟩ := gd_some hf
        refine r_sld C hw hX hbl hbl g205 dL_law_869 ?_
        obtain ⟨r207, μ206, e208, hf⟩ := bn_some hf
        refine r_callL C hw (K := [(0, (sx xs (nrm (x3 + 1))))]) ok11 kk_0 (c_X11_joins l D _ kk_0 e208) mi_X11_joins in_X11_joins se_X11_joins kl_L_113 rfl rfl (lvh_sz hl) (by decide) (by decide) (Nat.le_of_ble_eq_true rfl) dL_law_870 (fun H locs hw => ?_)
        refine r_aload_n C hl (kx := 2) rfl rfl dL_law_873 ?_
        refine r_load3 C hl (kx := 0) rfl rfl dL_law_874 ?_
        refine r_iload_n C hl (kx := 3) rfl rfl dL_law_875 ?_
        refine r_iconst C dL_law_876 ?_
        refine r_iadd C dL_law_877 ?_
        refine r_sld C hw hX hbl hbl g205 dL_law_878 ?_
        obtain ⟨r210, μ209, e211, hf⟩ := bn_some hf
        refine r_callL C hw (K := [(0, (sx xs (nrm (x3 + 1))))]) ok12 kk_111 (c_X12_joins l D _ kk_111 e211) mi_X12_joins in_X12_joins se_X12_joins kl_L_116 rfl rfl (lvh_sz hl) (by decide) (by decide) (Nat.le_of_ble_eq_true rfl) dL_law_879 (fun H locs hw => ?_)
        refine r_icmp_eq C (tgt := 1356) (by decide) dL_law_882 (fun c212 => ?_) (fun c212 => ?_)
        · have hf := ite_t c212 hf
          refine r_iinc C hl (kx := 3) rfl (by decide) (L' := [(3, 0, (x3 + 6)), (0, 3, (b0 : Int)), (1, 2, 0), (2, 2, 111)]) rfl dL_law_1356 (fun ls hl => ?_)
          refine r_goto C (tgt := 18) (by decide) dL_law_1359 ?_
          exact ih _ _ _ _ _ hf hw (lvh_sub hl [1, 2, 3, 0] rfl)
        · have hf := ite_f c212 hf
          refine r_iconst C dL_law_885 ?_
          cases hf
      have hf := ite_f cs24 hf
      rcases Decidable.em (nrm (jand (sx xs (nrm x3)) 63) = 25) with cs25 | cs25
      · have hf := ite_t cs25 hf
        refine r_tabIn C (tgt := 887) cs25 (by decide) (by decide) rfl (by decide) dL_law_33 ?_
        refine r_aload_n C hl (kx := 1) rfl rfl dL_law_887 ?_
        refine r_load3 C hl (kx := 0) rfl rfl dL_law_888 ?_
        refine r_iload_n C hl (kx := 3) rfl rfl dL_law_889 ?_
        refine r_iconst C dL_law_890 ?_
        refine r_iadd C dL_law_891 ?_
        obtain ⟨g213, hf⟩ := gd_some hf
        refine r_sld C hw hX hbl hbl g213 dL_law_892 ?_
        refine r_load3 C hl (kx := 0) rfl rfl dL_law_893 ?_
        refine r_iload_n C hl (kx := 3) rfl rfl dL_law_894 ?_
        refine r_iconst C dL_law_895 ?_
        refine r_iadd C dL_law_896 ?_
        obtain ⟨g214, hf⟩ := gd_some hf
        refine r_sld C hw hX hbl hbl g214 dL_law_897 ?_
        obtain ⟨r216, μ215, e217, hf⟩ := bn_some hf
        refine r_callL C hw (K := [(0, (sx xs (nrm (x3 + 1)))), (0, (sx xs (nrm (x3 + 2))))]) ok11 kk_0 (c_X11_shuts l D _ kk_0 e217) mi_X11_shuts in_X11_shuts se_X11_shuts kl_L_117 rfl rfl (lvh_sz hl) (by decide) (by decide) (Nat.le_of_ble_eq_true rfl) dL_law_898 (fun H locs hw => ?_)
        refine r_aload_n C hl (kx := 2) rfl rfl dL_law_901 ?_
        refine r_load3 C hl (kx := 0) rfl rfl dL_law_902 ?_
        refine r_iload_n C hl (kx := 3) rfl rfl dL_law_903 ?_
        refine r_iconst C dL_law_904 ?_
        refine r_iadd C dL_law_905 ?_
        refine r_sld C hw hX hbl hbl g213 dL_law_906 ?_
        refine r_load3 C hl (kx := 0) rfl rfl dL_law_907 ?_
        refine r_iload_n C hl (kx := 3) rfl rfl dL_law_908 ?_
        refine r_iconst C dL_law_909 ?_
        refine r_iadd C dL_law_910 ?_
        refine r_sld C hw hX hbl hbl g214 dL_law_911 ?_
        obtain ⟨r219, μ218, e220, hf⟩ := bn_some hf
        refine r_callL C hw (K := [(0, (sx xs (nrm (x3 + 1)))), (0, (sx xs (nrm (x3 + 2))))]) ok12 kk_111 (c_X12_shuts l D _ kk_111 e220) mi_X12_shuts in_X12_shuts se_X12_shuts kl_L_120 rfl rfl (lvh_sz hl) (by decide) (by decide) (Nat.le_of_ble_eq_true rfl) dL_law_912 (fun H locs hw => ?_)
        refine r_icmp_eq C (tgt := 1356) (by decide) dL_law_915 (fun c221 => ?_) (fun c221 => ?_)
        · have hf := ite_t c221 hf
          refine r_iinc C hl (kx := 3) rfl (by decide) (L' := [(3, 0, (x3 + 6)), (0, 3, (b0 : Int)), (1, 2, 0), (2, 2, 111)]) rfl dL_law_1356 (fun ls hl => ?_)
          refine r_goto C (tgt := 18) (by decide) dL_law_1359 ?_
          exact ih _ _ _ _ _ hf hw (lvh_sub hl [1, 2, 3, 0] rfl)
        · have hf := ite_f c221 hf
          refine r_iconst C dL_law_918 ?_
          cases hf
      have hf := ite_f cs25 hf
      rcases Decidable.em (nrm (jand (sx xs (nrm x3)) 63) = 26) with cs26 | cs26
      · have hf := ite_t cs26 hf
        refine r_tabIn C (tgt := 920) cs26 (by decide) (by decide) rfl (by decide) dL_law_33 ?_
        refine r_aload_n C hl (kx := 1) rfl rfl dL_law_920 ?_
        refine r_load3 C hl (kx := 0) rfl rfl dL_law_921 ?_
        refine r_iload_n C hl (kx := 3) rfl rfl dL_law_922 ?_
        refine r_iconst C dL_law_923 ?_
        refine r_iadd C dL_law_924 ?_
        obtain ⟨g222, hf⟩ := gd_some hf
        refine r_sld C hw hX hbl hbl g222 dL_law_925 ?_
        obtain ⟨r224, μ223, e225, hf⟩ := bn_some hf
        refine r_callL C hw (K := [(0, (sx xs (nrm (x3 + 1))))]) ok11 kk_0 (c_X11_turning l D _ kk_0 e225) mi_X11_turning in_X11_turning se_X11_turning kl_L_121 rfl rfl (lvh_sz hl) (by decide) (by decide) (Nat.le_of_ble_eq_true rfl) dL_law_926 (fun H locs hw => ?_)
        refine r_aload_n C hl (kx := 2) rfl rfl dL_law_929 ?_
        refine r_load3 C hl (kx := 0) rfl rfl dL_law_930 ?_
        refine r_iload_n C hl (kx := 3) rfl rfl dL_law_931 ?_
        refine r_iconst C dL_law_932 ?_
        refine r_iadd C dL_law_933 ?_
        refine r_sld C hw hX hbl hbl g222 dL_law_934 ?_
        obtain ⟨r227, μ226, e228, hf⟩ := bn_some hf
        refine r_callL C hw (K := [(0, (sx xs (nrm (x3 + 1))))]) ok12 kk_111 (c_X12_turning l D _ kk_111 e228) mi_X12_turning in_X12_turning se_X12_turning kl_L_124 rfl rfl (lvh_sz hl) (by decide) (by decide) (Nat.le_of_ble_eq_true rfl) dL_law_935 (fun H locs hw => ?_)
        refine r_icmp_eq C (tgt := 1356) (by decide) dL_law_938 (fun c229 => ?_) (fun c229 => ?_)
        · have hf := ite_t c229 hf
          refine r_iinc C hl (kx := 3) rfl (by decide) (L' := [(3, 0, (x3 + 6)), (0, 3, (b0 : Int)), (1, 2, 0), (2, 2, 111)]) rfl dL_law_1356 (fun ls hl => ?_)
          refine r_goto C (tgt := 18) (by decide) dL_law_1359 ?_
          exact ih _ _ _ _ _ hf hw (lvh_sub hl [1, 2, 3, 0] rfl)
        · have hf := ite_f c229 hf
          refine r_iconst C dL_law_941 ?_
          cases hf
      have hf := ite_f cs26 hf
      rcases Decidable.em (nrm (jand (sx xs (nrm x3)) 63) = 27) with cs27 | cs27
      · have hf := ite_t cs27 hf
        refine r_tabIn C (tgt := 943) cs27 (by decide) (by decide) rfl (by decide) dL_law_33 ?_
        refine r_aload_n C hl (kx := 1) rfl rfl dL_law_943 ?_
        refine r_load3 C hl (kx := 0) rfl rfl dL_law_944 ?_
        refine r_iload_n C hl (kx := 3) rfl rfl dL_law_945 ?_
        refine r_iconst C dL_law_946 ?_
        refine r_iadd C dL_law_947 ?_
        obtain ⟨g230, hf⟩ := gd_some hf
        refine r_sld C hw hX hbl hbl g230 dL_law_948 ?_
        obtain ⟨r232, μ231, e233, hf⟩ := bn_some hf
        refine r_callL C hw (K := [(0, (sx xs (nrm (x3 + 1))))]) ok11 kk_0 (c_X11_when l D _ kk_0 e233) mi_X11_when in_X11_when se_X11_when kl_L_125 rfl rfl (lvh_sz hl) (by decide) (by decide) (Nat.le_of_ble_eq_true rfl) dL_law_949 (fun H locs hw => ?_)
        refine r_aload_n C hl (kx := 2) rfl rfl dL_law_952 ?_
        refine r_load3 C hl (kx := 0) rfl rfl dL_law_953 ?_
        refine r_iload_n C hl (kx := 3) rfl rfl dL_law_954 ?_
        refine r_iconst C dL_law_955 ?_
        refine r_iadd C dL_law_956 ?_
        refine r_sld C hw hX hbl hbl g230 dL_law_957 ?_
        obtain ⟨r235, μ234, e236, hf⟩ := bn_some hf
        refine r_callL C hw (K := [(0, (sx xs (nrm (x3 + 1))))]) ok12 kk_111 (c_X12_when l D _ kk_111 e236) mi_X12_when in_X12_when se_X12_when kl_L_128 rfl rfl (lvh_sz hl) (by decide) (by decide) (Nat.le_of_ble_eq_true rfl) dL_law_958 (fun H locs hw => ?_)
        refine r_icmp_eq C (tgt := 1356) (by decide) dL_law_961 (fun c237 => ?_) (fun c237 => ?_)
        · have hf := ite_t c237 hf
          refine r_iinc C hl (kx := 3) rfl (by decide) (L' := [(3, 0, (x3 + 6)), (0, 3, (b0 : Int)), (1, 2, 0), (2, 2, 111)]) rfl dL_law_1356 (fun ls hl => ?_)
          refine r_goto C (tgt := 18) (by decide) dL_law_1359 ?_
          exact ih _ _ _ _ _ hf hw (lvh_sub hl [1, 2, 3, 0] rfl)
        · have hf := ite_f c237 hf
          refine r_iconst C dL_law_964 ?_
          cases hf
      have hf := ite_f cs27 hf
      rcases Decidable.em (nrm (jand (sx xs (nrm x3)) 63) = 28) with cs28 | cs28
      · have hf := ite_t cs28 hf
        refine r_tabIn C (tgt := 966) cs28 (by decide) (by decide) rfl (by decide) dL_law_33 ?_
        refine r_aload_n C hl (kx := 1) rfl rfl dL_law_966 ?_
        refine r_load3 C hl (kx := 0) rfl rfl dL_law_967 ?_
        refine r_iload_n C hl (kx := 3) rfl rfl dL_law_968 ?_
        refine r_iconst C dL_law_969 ?_
        refine r_iadd C dL_law_970 ?_
        obtain ⟨g238, hf⟩ := gd_some hf
        refine r_sld C hw hX hbl hbl g238 dL_law_971 ?_
        obtain ⟨r240, μ239, e241, hf⟩ := bn_some hf
        refine r_callL C hw (K := [(0, (sx xs (nrm (x3 + 1))))]) ok11 kk_0 (c_X11_starts l D _ kk_0 e241) mi_X11_starts in_X11_starts se_X11_starts kl_L_129 rfl rfl (lvh_sz hl) (by decide) (by decide) (Nat.le_of_ble_eq_true rfl) dL_law_972 (fun H locs hw => ?_)
        refine r_aload_n C hl (kx := 2) rfl rfl dL_law_975 ?_
        refine r_load3 C hl (kx := 0) rfl rfl dL_law_976 ?_
        refine r_iload_n C hl (kx := 3) rfl rfl dL_law_977 ?_
        refine r_iconst C dL_law_978 ?_
        refine r_iadd C dL_law_979 ?_
        refine r_sld C hw hX hbl hbl g238 dL_law_980 ?_
        obtain ⟨r243, μ242, e244, hf⟩ := bn_some hf
        refine r_callL C hw (K := [(0, (sx xs (nrm (x3 + 1))))]) ok12 kk_111 (c_X12_starts l D _ kk_111 e244) mi_X12_starts in_X12_starts se_X12_starts kl_L_132 rfl rfl (lvh_sz hl) (by decide) (by decide) (Nat.le_of_ble_eq_true rfl) dL_law_981 (fun H locs hw => ?_)
        refine r_icmp_eq C (tgt := 1356) (by decide) dL_law_984 (fun c245 => ?_) (fun c245 => ?_)
        · have hf := ite_t c245 hf
          refine r_iinc C hl (kx := 3) rfl (by decide) (L' := [(3, 0, (x3 + 6)), (0, 3, (b0 : Int)), (1, 2, 0), (2, 2, 111)]) rfl dL_law_1356 (fun ls hl => ?_)
          refine r_goto C (tgt := 18) (by decide) dL_law_1359 ?_
          exact ih _ _ _ _ _ hf hw (lvh_sub hl [1, 2, 3, 0] rfl)
        · have hf := ite_f c245 hf
          refine r_iconst C dL_law_987 ?_
          cases hf
      have hf := ite_f cs28 hf
      rcases Decidable.em (nrm (jand (sx xs (nrm x3)) 63) = 29) with cs29 | cs29
      · have hf := ite_t cs29 hf
        refine r_tabIn C (tgt := 989) cs29 (by decide) (by decide) rfl (by decide) dL_law_33 ?_
        refine r_aload_n C hl (kx := 1) rfl rfl dL_law_989 ?_
        refine r_load3 C hl (kx := 0) rfl rfl dL_law_990 ?_
        refine r_iload_n C hl (kx := 3) rfl rfl dL_law_991 ?_
        refine r_iconst C dL_law_992 ?_
        refine r_iadd C dL_law_993 ?_
        obtain ⟨g246, hf⟩ := gd_some hf
        refine r_sld C hw hX hbl hbl g246 dL_law_994 ?_
        obtain ⟨r248, μ247, e249, hf⟩ := bn_some hf
        refine r_callL C hw (K := [(0, (sx xs (nrm (x3 + 1))))]) ok11 kk_0 (c_X11_rains l D _ kk_0 e249) mi_X11_rains in_X11_rains se_X11_rains kl_L_133 rfl rfl (lvh_sz hl) (by decide) (by decide) (Nat.le_of_ble_eq_true rfl) dL_law_995 (fun H locs hw => ?_)
        refine r_aload_n C hl (kx := 2) rfl rfl dL_law_998 ?_
        refine r_load3 C hl (kx := 0) rfl rfl dL_law_999 ?_
        refine r_iload_n C hl (kx := 3) rfl rfl dL_law_1000 ?_
        refine r_iconst C dL_law_1001 ?_
        refine r_iadd C dL_law_1002 ?_
        refine r_sld C hw hX hbl hbl g246 dL_law_1003 ?_
        obtain ⟨r251, μ250, e252, hf⟩ := bn_some hf
        refine r_callL C hw (K := [(0, (sx xs (nrm (x3 + 1))))]) ok12 kk_111 (c_X12_rains l D _ kk_111 e252) mi_X12_rains in_X12_rains se_X12_rains kl_L_136 rfl rfl (lvh_sz hl) (by decide) (by decide) (Nat.le_of_ble_eq_true rfl) dL_law_1004 (fun H locs hw => ?_)
        refine r_icmp_eq C (tgt := 1356) (by decide) dL_law_1007 (fun c253 => ?_) (fun c253 => ?_)
        · have hf := ite_t c253 hf
          refine r_iinc C hl (kx := 3) rfl (by decide) (L' := [(3, 0, (x3 + 6)), (0, 3, (b0 : Int)), (1, 2, 0), (2, 2, 111)]) rfl dL_law_1356 (fun ls hl => ?_)
          refine r_goto C (tgt := 18) (by decide) dL_law_1359 ?_
          exact ih _ _ _ _ _ hf hw (lvh_sub hl [1, 2, 3, 0] rfl)
        · have hf := ite_f c253 hf
          refine r_iconst C dL_law_1010 ?_
          cases hf
      have hf := ite_f cs29 hf
      rcases Decidable.em (nrm (jand (sx xs (nrm x3)) 63) = 30) with cs30 | cs30
      · have hf := ite_t cs30 hf
        refine r_tabIn C (tgt := 1012) cs30 (by decide) (by decide) rfl (by decide) dL_law_33 ?_
        refine r_aload_n C hl (kx := 1) rfl rfl dL_law_1012 ?_
        refine r_load3 C hl (kx := 0) rfl rfl dL_law_1013 ?_
        refine r_iload_n C hl (kx := 3) rfl rfl dL_law_1014 ?_
        refine r_iconst C dL_law_1015 ?_
        refine r_iadd C dL_law_1016 ?_
        obtain ⟨g254, hf⟩ := gd_some hf
        refine r_sld C hw hX hbl hbl g254 dL_law_1017 ?_
        obtain ⟨r256, μ255, e257, hf⟩ := bn_some hf
        refine r_callL C hw (K := [(0, (sx xs (nrm (x3 + 1))))]) ok11 kk_0 (c_X11_attempt l D _ kk_0 e257) mi_X11_attempt in_X11_attempt se_X11_attempt kl_L_137 rfl rfl (lvh_sz hl) (by decide) (by decide) (Nat.le_of_ble_eq_true rfl) dL_law_1018 (fun H locs hw => ?_)
        refine r_aload_n C hl (kx := 2) rfl rfl dL_law_1021 ?_
        refine r_load3 C hl (kx := 0) rfl rfl dL_law_1022 ?_
        refine r_iload_n C hl (kx := 3) rfl rfl dL_law_1023 ?_
        refine r_iconst C dL_law_1024 ?_
        refine r_iadd C dL_law_1025 ?_
        refine r_sld C hw hX hbl hbl g254 dL_law_1026 ?_
        obtain ⟨r259, μ258, e260, hf⟩ := bn_some hf
        refine r_callL C hw (K := [(0, (sx xs (nrm (x3 + 1))))]) ok12 kk_111 (c_X12_attempt l D _ kk_111 e260) mi_X12_attempt in_X12_attempt se_X12_attempt kl_L_140 rfl rfl (lvh_sz hl) (by decide) (by decide) (Nat.le_of_ble_eq_true rfl) dL_law_1027 (fun H locs hw => ?_)
        refine r_icmp_eq C (tgt := 1356) (by decide) dL_law_1030 (fun c261 => ?_) (fun c261 => ?_)
        · have hf := ite_t c261 hf
          refine r_iinc C hl (kx := 3) rfl (by decide) (L' := [(3, 0, (x3 + 6)), (0, 3, (b0 : Int)), (1, 2, 0), (2, 2, 111)]) rfl dL_law_1356 (fun ls hl => ?_)
          refine r_goto C (tgt := 18) (by decide) dL_law_1359 ?_
          exact ih _ _ _ _ _ hf hw (lvh_sub hl [1, 2, 3, 0] rfl)
        · have hf := ite_f c261 hf
          refine r_iconst C dL_law_1033 ?_
          cases hf
      have hf := ite_f cs30 hf
      rcases Decidable.em (nrm (jand (sx xs (nrm x3)) 63) = 31) with cs31 | cs31
      · have hf := ite_t cs31 hf
        refine r_tabIn C (tgt := 1035) cs31 (by decide) (by decide) rfl (by decide) dL_law_33 ?_
        refine r_aload_n C hl (kx := 1) rfl rfl dL_law_1035 ?_
        obtain ⟨r263, μ262, e264, hf⟩ := bn_some hf
        refine r_callL C hw (K := []) ok11 kk_0 (c_X11_wins l D _ kk_0 e264) mi_X11_wins in_X11_wins se_X11_wins kl_L_141 rfl rfl (lvh_sz hl) (by decide) (by decide) (Nat.le_of_ble_eq_true rfl) dL_law_1036 (fun H locs hw => ?_)
        refine r_aload_n C hl (kx := 2) rfl rfl dL_law_1039 ?_
        obtain ⟨r266, μ265, e267, hf⟩ := bn_some hf
        refine r_callL C hw (K := []) ok12 kk_111 (c_X12_wins l D _ kk_111 e267) mi_X12_wins in_X12_wins se_X12_wins kl_L_144 rfl rfl (lvh_sz hl) (by decide) (by decide) (Nat.le_of_ble_eq_true rfl) dL_law_1040 (fun H locs hw => ?_)
        refine r_icmp_eq C (tgt := 1356) (by decide) dL_law_1043 (fun c268 => ?_) (fun c268 => ?_)
        · have hf := ite_t c268 hf
          refine r_iinc C hl (kx := 3) rfl (by decide) (L' := [(3, 0, (x3 + 6)), (0, 3, (b0 : Int)), (1, 2, 0), (2, 2, 111)]) rfl dL_law_1356 (fun ls hl => ?_)
          refine r_goto C (tgt := 18) (by decide) dL_law_1359 ?_
          exact ih _ _ _ _ _ hf hw (lvh_sub hl [1, 2, 3, 0] rfl)
        · have hf := ite_f c268 hf
          refine r_iconst C dL_law_1046 ?_
          cases hf
      have hf := ite_f cs31 hf
      rcases Decidable.em (nrm (jand (sx xs (nrm x3)) 63) = 32) with cs32 | cs32
      · have hf := ite_t cs32 hf
        refine r_tabIn C (tgt := 1048) cs32 (by decide) (by decide) rfl (by decide) dL_law_33 ?_
        refine r_aload_n C hl (kx := 1) rfl rfl dL_law_1048 ?_
        obtain ⟨r270, μ269, e271, hf⟩ := bn_some hf
        refine r_callL C hw (K := []) ok11 kk_0 (c_X11_best l D _ kk_0 e271) mi_X11_best in_X11_best se_X11_best kl_L_145 rfl rfl (lvh_sz hl) (by decide) (by decide) (Nat.le_of_ble_eq_true rfl) dL_law_1049 (fun H locs hw => ?_)
        refine r_aload_n C hl (kx := 2) rfl rfl dL_law_1052 ?_
        obtain ⟨r273, μ272, e274, hf⟩ := bn_some hf
        refine r_callL C hw (K := []) ok12 kk_111 (c_X12_best l D _ kk_111 e274) mi_X12_best in_X12_best se_X12_best kl_L_148 rfl rfl (lvh_sz hl) (by decide) (by decide) (Nat.le_of_ble_eq_true rfl) dL_law_1053 (fun H locs hw => ?_)
        refine r_icmp_eq C (tgt := 1356) (by decide) dL_law_1056 (fun c275 => ?_) (fun c275 => ?_)
        · have hf := ite_t c275 hf
          refine r_iinc C hl (kx := 3) rfl (by decide) (L' := [(3, 0, (x3 + 6)), (0, 3, (b0 : Int)), (1, 2, 0), (2, 2, 111)]) rfl dL_law_1356 (fun ls hl => ?_)
          refine r_goto C (tgt := 18) (by decide) dL_law_1359 ?_
          exact ih _ _ _ _ _ hf hw (lvh_sub hl [1, 2, 3, 0] rfl)
        · have hf := ite_f c275 hf
          refine r_iconst C dL_law_1059 ?_
          cases hf
      have hf := ite_f cs32 hf
      rcases Decidable.em (nrm (jand (sx xs (nrm x3)) 63) = 33) with cs33 | cs33
      · have hf := ite_t cs33 hf
        refine r_tabIn C (tgt := 1061) cs33 (by decide) (by decide) rfl (by decide) dL_law_33 ?_
        refine r_aload_n C hl (kx := 1) rfl rfl dL_law_1061 ?_
        refine r_load3 C hl (kx := 0) rfl rfl dL_law_1062 ?_
        refine r_iload_n C hl (kx := 3) rfl rfl dL_law_1063 ?_
        refine r_iconst C dL_law_1064 ?_
        refine r_iadd C dL_law_1065 ?_
        obtain ⟨g276, hf⟩ := gd_some hf
        refine r_sld C hw hX hbl hbl g276 dL_law_1066 ?_
        refine r_load3 C hl (kx := 0) rfl rfl dL_law_1067 ?_
        refine r_iload_n C hl (kx := 3) rfl rfl dL_law_1068 ?_
        refine r_iconst C dL_law_1069 ?_
        refine r_iadd C dL_law_1070 ?_
        obtain ⟨g277, hf⟩ := gd_some hf
        refine r_sld C hw hX hbl hbl g277 dL_law_1071 ?_
        refine r_load3 C hl (kx := 0) rfl rfl dL_law_1072 ?_
        refine r_iload_n C hl (kx := 3) rfl rfl dL_law_1073 ?_
        refine r_iconst C dL_law_1074 ?_
        refine r_iadd C dL_law_1075 ?_
        obtain ⟨g278, hf⟩ := gd_some hf
        refine r_sld C hw hX hbl hbl g278 dL_law_1076 ?_
        obtain ⟨r280, μ279, e281, hf⟩ := bn_some hf
        refine r_callL C hw (K := [(0, (sx xs (nrm (x3 + 1)))), (0, (sx xs (nrm (x3 + 2)))), (0, (sx xs (nrm (x3 + 3))))]) ok11 kk_0 (c_X11_chance l D _ kk_0 e281) mi_X11_chance in_X11_chance se_X11_chance kl_L_149 rfl rfl (lvh_sz hl) (by decide) (by decide) (Nat.le_of_ble_eq_true rfl) dL_law_1077 (fun H locs hw => ?_)
        refine r_aload_n C hl (kx := 2) rfl rfl dL_law_1080 ?_
        refine r_load3 C hl (kx := 0) rfl rfl dL_law_1081 ?_
        refine r_iload_n C hl (kx := 3) rfl rfl dL_law_1082 ?_
        refine r_iconst C dL_law_1083 ?_
        refine r_iadd C dL_law_1084 ?_
        refine r_sld C hw hX hbl hbl g276 dL_law_1085 ?_
        refine r_load3 C hl (kx := 0) rfl rfl dL_law_1086 ?_
        refine r_iload_n C hl (kx := 3) rfl rfl dL_law_1087 ?_
        refine r_iconst C dL_law_1088 ?_
        refine r_iadd C dL_law_1089 ?_
        refine r_sld C hw hX hbl hbl g277 dL_law_1090 ?_
        refine r_load3 C hl (kx := 0) rfl rfl dL_law_1091 ?_
        refine r_iload_n C hl (kx := 3) rfl rfl dL_law_1092 ?_
        refine r_iconst C dL_law_1093 ?_
        refine r_iadd C dL_law_1094 ?_
        refine r_sld C hw hX hbl hbl g278 dL_law_1095 ?_
        obtain ⟨r283, μ282, e284, hf⟩ := bn_some hf
        refine r_callL C hw (K := [(0, (sx xs (nrm (x3 + 1)))), (0, (sx xs (nrm (x3 + 2)))), (0, (sx xs (nrm (x3 + 3))))]) ok12 kk_111 (c_X12_chance l D _ kk_111 e284) mi_X12_chance in_X12_chance se_X12_chance kl_L_153 rfl rfl (lvh_sz hl) (by decide) (by decide) (Nat.le_of_ble_eq_true rfl) dL_law_1096 (fun H locs hw => ?_)
        refine r_icmp_eq C (tgt := 1356) (by decide) dL_law_1099 (fun c285 => ?_) (fun c285 => ?_)
        · have hf := ite_t c285 hf
          refine r_iinc C hl (kx := 3) rfl (by decide) (L' := [(3, 0, (x3 + 6)), (0, 3, (b0 : Int)), (1, 2, 0), (2, 2, 111)]) rfl dL_law_1356 (fun ls hl => ?_)
          refine r_goto C (tgt := 18) (by decide) dL_law_1359 ?_
          exact ih _ _ _ _ _ hf hw (lvh_sub hl [1, 2, 3, 0] rfl)
        · have hf := ite_f c285 hf
          refine r_iconst C dL_law_1102 ?_
          cases hf
      have hf := ite_f cs33 hf
      rcases Decidable.em (nrm (jand (sx xs (nrm x3)) 63) = 34) with cs34 | cs34
      · have hf := ite_t cs34 hf
        refine r_tabIn C (tgt := 1104) cs34 (by decide) (by decide) rfl (by decide) dL_law_33 ?_
        refine r_aload_n C hl (kx := 1) rfl rfl dL_law_1104 ?_
        refine r_load3 C hl (kx := 0) rfl rfl dL_law_1105 ?_
        refine r_iload_n C hl (kx := 3) rfl rfl dL_law_1106 ?_
        refine r_iconst C dL_law_1107 ?_
        refine r_iadd C dL_law_1108 ?_
        obtain ⟨g286, hf⟩ := gd_some hf
        refine r_sld C hw hX hbl hbl g286 dL_law_1109 ?_
        refine r_load3 C hl (kx := 0) rfl rfl dL_law_1110 ?_
        refine r_iload_n C hl (kx := 3) rfl rfl dL_law_1111 ?_
        refine r_iconst C dL_law_1112 ?_
        refine r_iadd C dL_law_1113 ?_
        obtain ⟨g287, hf⟩ := gd_some hf
        refine r_sld C hw hX hbl hbl g287 dL_law_1114 ?_
        obtain ⟨r289, μ288, e290, hf⟩ := bn_some hf
        refine r_callL C hw (K := [(0, (sx xs (nrm (x3 + 1)))), (0, (sx xs (nrm (x3 + 2))))]) ok11 kk_0 (c_X11_bestBy l D _ kk_0 e290) mi_X11_bestBy in_X11_bestBy se_X11_bestBy kl_L_154 rfl rfl (lvh_sz hl) (by decide) (by decide) (Nat.le_of_ble_eq_true rfl) dL_law_1115 (fun H locs hw => ?_)
        refine r_aload_n C hl (kx := 2) rfl rfl dL_law_1118 ?_
        refine r_load3 C hl (kx := 0) rfl rfl dL_law_1119 ?_
        refine r_iload_n C hl (kx := 3) rfl rfl dL_law_1120 ?_
        refine r_iconst C dL_law_1121 ?_
        refine r_iadd C dL_law_1122 ?_
        refine r_sld C hw hX hbl hbl g286 dL_law_1123 ?_
        refine r_load3 C hl (kx := 0) rfl rfl dL_law_1124 ?_
        refine r_iload_n C hl (kx := 3) rfl rfl dL_law_1125 ?_
        refine r_iconst C dL_law_1126 ?_
        refine r_iadd C dL_law_1127 ?_
        refine r_sld C hw hX hbl hbl g287 dL_law_1128 ?_
        obtain ⟨r292, μ291, e293, hf⟩ := bn_some hf
        refine r_callL C hw (K := [(0, (sx xs (nrm (x3 + 1)))), (0, (sx xs (nrm (x3 + 2))))]) ok12 kk_111 (c_X12_bestBy l D _ kk_111 e293) mi_X12_bestBy in_X12_bestBy se_X12_bestBy kl_L_157 rfl rfl (lvh_sz hl) (by decide) (by decide) (Nat.le_of_ble_eq_true rfl) dL_law_1129 (fun H locs hw => ?_)
        refine r_icmp_eq C (tgt := 1356) (by decide) dL_law_1132 (fun c294 => ?_) (fun c294 => ?_)
        · have hf := ite_t c294 hf
          refine r_iinc C hl (kx := 3) rfl (by decide) (L' := [(3, 0, (x3 + 6)), (0, 3, (b0 : Int)), (1, 2, 0), (2, 2, 111)]) rfl dL_law_1356 (fun ls hl => ?_)
          refine r_goto C (tgt := 18) (by decide) dL_law_1359 ?_
          exact ih _ _ _ _ _ hf hw (lvh_sub hl [1, 2, 3, 0] rfl)
        · have hf := ite_f c294 hf
          refine r_iconst C dL_law_1135 ?_
          cases hf
      have hf := ite_f cs34 hf
      rcases Decidable.em (nrm (jand (sx xs (nrm x3)) 63) = 35) with cs35 | cs35
      · have hf := ite_t cs35 hf
        refine r_tabIn C (tgt := 1137) cs35 (by decide) (by decide) rfl (by decide) dL_law_33 ?_
        refine r_aload_n C hl (kx := 1) rfl rfl dL_law_1137 ?_
        refine r_load3 C hl (kx := 0) rfl rfl dL_law_1138 ?_
        refine r_iload_n C hl (kx := 3) rfl rfl dL_law_1139 ?_
        refine r_iconst C dL_law_1140 ?_
        refine r_iadd C dL_law_1141 ?_
        obtain ⟨g295, hf⟩ := gd_some hf
        refine r_sld C hw hX hbl hbl g295 dL_law_1142 ?_
        refine r_load3 C hl (kx := 0) rfl rfl dL_law_1143 ?_
        refine r_iload_n C hl (kx := 3) rfl rfl dL_law_1144 ?_
        refine r_iconst C dL_law_1145 ?_
        refine r_iadd C dL_law_1146 ?_
        obtain ⟨g296, hf⟩ := gd_some hf
        refine r_sld C hw hX hbl hbl g296 dL_law_1147 ?_
        refine r_load3 C hl (kx := 0) rfl rfl dL_law_1148 ?_
        refine r_iload_n C hl (kx := 3) rfl rfl dL_law_1149 ?_
        refine r_iconst C dL_law_1150 ?_
        refine r_iadd C dL_law_1151 ?_
        obtain ⟨g297, hf⟩ := gd_some hf
        refine r_sld C hw hX hbl hbl g297 dL_law_1152 ?_
        obtain ⟨r299, μ298, e300, hf⟩ := bn_some hf
        refine r_callL C hw (K := [(0, (sx xs (nrm (x3 + 1)))), (0, (sx xs (nrm (x3 + 2)))), (0, (sx xs (nrm (x3 + 3))))]) ok11 kk_0 (c_X11_numbers l D _ kk_0 e300) mi_X11_numbers in_X11_numbers se_X11_numbers kl_L_158 rfl rfl (lvh_sz hl) (by decide) (by decide) (Nat.le_of_ble_eq_true rfl) dL_law_1153 (fun H locs hw => ?_)
        refine r_aload_n C hl (kx := 2) rfl rfl dL_law_1156 ?_
        refine r_load3 C hl (kx := 0) rfl rfl dL_law_1157 ?_
        refine r_iload_n C hl (kx := 3) rfl rfl dL_law_1158 ?_
        refine r_iconst C dL_law_1159 ?_
        refine r_iadd C dL_law_1160 ?_
        refine r_sld C hw hX hbl hbl g295 dL_law_1161 ?_
        refine r_load3 C hl (kx := 0) rfl rfl dL_law_1162 ?_
        refine r_iload_n C hl (kx := 3) rfl rfl dL_law_1163 ?_
        refine r_iconst C dL_law_1164 ?_
        refine r_iadd C dL_law_1165 ?_
        refine r_sld C hw hX hbl hbl g296 dL_law_1166 ?_
        refine r_load3 C hl (kx := 0) rfl rfl dL_law_1167 ?_
        refine r_iload_n C hl (kx := 3) rfl rfl dL_law_1168 ?_
        refine r_iconst C dL_law_1169 ?_
        refine r_iadd C dL_law_1170 ?_
        refine r_sld C hw hX hbl hbl g297 dL_law_1171 ?_
        obtain ⟨r302, μ301, e303, hf⟩ := bn_some hf
        refine r_callL C hw (K := [(0, (sx xs (nrm (x3 + 1)))), (0, (sx xs (nrm (x3 + 2)))), (0, (sx xs (nrm (x3 + 3))))]) ok12 kk_111 (c_X12_numbers l D _ kk_111 e303) mi_X12_numbers in_X12_numbers se_X12_numbers kl_L_161 rfl rfl (lvh_sz hl) (by decide) (by decide) (Nat.le_of_ble_eq_true rfl) dL_law_1172 (fun H locs hw => ?_)
        refine r_icmp_eq C (tgt := 1356) (by decide) dL_law_1175 (fun c304 => ?_) (fun c304 => ?_)
        · have hf := ite_t c304 hf
          refine r_iinc C hl (kx := 3) rfl (by decide) (L' := [(3, 0, (x3 + 6)), (0, 3, (b0 : Int)), (1, 2, 0), (2, 2, 111)]) rfl dL_law_1356 (fun ls hl => ?_)
          refine r_goto C (tgt := 18) (by decide) dL_law_1359 ?_
          exact ih _ _ _ _ _ hf hw (lvh_sub hl [1, 2, 3, 0] rfl)
        · have hf := ite_f c304 hf
          refine r_iconst C dL_law_1178 ?_
          cases hf
      have hf := ite_f cs35 hf
      rcases Decidable.em (nrm (jand (sx xs (nrm x3)) 63) = 36) with cs36 | cs36
      · have hf := ite_t cs36 hf
        refine r_tabIn C (tgt := 1180) cs36 (by decide) (by decide) rfl (by decide) dL_law_33 ?_
        refine r_aload_n C hl (kx := 1) rfl rfl dL_law_1180 ?_
        refine r_load3 C hl (kx := 0) rfl rfl dL_law_1181 ?_
        refine r_iload_n C hl (kx := 3) rfl rfl dL_law_1182 ?_
        refine r_iconst C dL_law_1183 ?_
        refine r_iadd C dL_law_1184 ?_
        obtain ⟨g305, hf⟩ := gd_some hf
        refine r_sld C hw hX hbl hbl g305 dL_law_1185 ?_
        refine r_load3 C hl (kx := 0) rfl rfl dL_law_1186 ?_
        refine r_iload_n C hl (kx := 3) rfl rfl dL_law_1187 ?_
        refine r_iconst C dL_law_1188 ?_
        refine r_iadd C dL_law_1189 ?_
        obtain ⟨g306, hf⟩ := gd_some hf
        refine r_sld C hw hX hbl hbl g306 dL_law_1190 ?_
        refine r_load3 C hl (kx := 0) rfl rfl dL_law_1191 ?_
        refine r_iload_n C hl (kx := 3) rfl rfl dL_law_1192 ?_
        refine r_iconst C dL_law_1193 ?_
        refine r_iadd C dL_law_1194 ?_
        obtain ⟨g307, hf⟩ := gd_some hf
        refine r_sld C hw hX hbl hbl g307 dL_law_1195 ?_
        refine r_i2l C dL_law_1196 ?_
        refine r_bipush C (by decide) dL_law_1197 ?_
        refine r_lshl C dL_law_1199 ?_
        refine r_load3 C hl (kx := 0) rfl rfl dL_law_1200 ?_
        refine r_iload_n C hl (kx := 3) rfl rfl dL_law_1201 ?_
        refine r_iconst C dL_law_1202 ?_
        refine r_iadd C dL_law_1203 ?_
        obtain ⟨g308, hf⟩ := gd_some hf
        refine r_sld C hw hX hbl hbl g308 dL_law_1204 ?_
        refine r_i2l C dL_law_1205 ?_
        refine r_ldc2 C (z := 4294967295) (by decide) kwL1941 dL_law_1206 ?_
        refine r_land C dL_law_1209 ?_
        refine r_lor C dL_law_1210 ?_
        obtain ⟨r310, μ309, e311, hf⟩ := bn_some hf
        refine r_callL C hw (K := [(0, (sx xs (nrm (x3 + 1)))), (0, (sx xs (nrm (x3 + 2)))), (1, (kor (kshl (nrm (sx xs (nrm (x3 + 3)))) 32) (kand (nrm (sx xs (nrm (x3 + 4)))) 4294967295)))]) ok11 kk_0 (c_X11_write l D _ kk_0 e311) mi_X11_write in_X11_write se_X11_write kl_L_164 rfl rfl (lvh_sz hl) (by decide) (by decide) (Nat.le_of_ble_eq_true rfl) dL_law_1211 (fun H locs hw => ?_)
        refine r_aload_n C hl (kx := 2) rfl rfl dL_law_1214 ?_
        refine r_load3 C hl (kx := 0) rfl rfl dL_law_1215 ?_
        refine r_iload_n C hl (kx := 3) rfl rfl dL_law_1216 ?_
        refine r_iconst C dL_law_1217 ?_
        refine r_iadd C dL_law_1218 ?_
        refine r_sld C hw hX hbl hbl g305 dL_law_1219 ?_
        refine r_load3 C hl (kx := 0) rfl rfl dL_law_1220 ?_
        refine r_iload_n C hl (kx := 3) rfl rfl dL_law_1221 ?_
        refine r_iconst C dL_law_1222 ?_
        refine r_iadd C dL_law_1223 ?_
        refine r_sld C hw hX hbl hbl g306 dL_law_1224 ?_
        refine r_load3 C hl (kx := 0) rfl rfl dL_law_1225 ?_
        refine r_iload_n C hl (kx := 3) rfl rfl dL_law_1226 ?_
        refine r_iconst C dL_law_1227 ?_
        refine r_iadd C dL_law_1228 ?_
        refine r_sld C hw hX hbl hbl g307 dL_law_1229 ?_
        refine r_i2l C dL_law_1230 ?_
        refine r_bipush C (by decide) dL_law_1231 ?_
        refine r_lshl C dL_law_1233 ?_
        refine r_load3 C hl (kx := 0) rfl rfl dL_law_1234 ?_
        refine r_iload_n C hl (kx := 3) rfl rfl dL_law_1235 ?_
        refine r_iconst C dL_law_1236 ?_
        refine r_iadd C dL_law_1237 ?_
        refine r_sld C hw hX hbl hbl g308 dL_law_1238 ?_
        refine r_i2l C dL_law_1239 ?_
        refine r_ldc2 C (z := 4294967295) (by decide) kwL1941 dL_law_1240 ?_
        refine r_land C dL_law_1243 ?_
        refine r_lor C dL_law_1244 ?_
        obtain ⟨r313, μ312, e314, hf⟩ := bn_some hf
        refine r_callL C hw (K := [(0, (sx xs (nrm (x3 + 1)))), (0, (sx xs (nrm (x3 + 2)))), (1, (kor (kshl (nrm (sx xs (nrm (x3 + 3)))) 32) (kand (nrm (sx xs (nrm (x3 + 4)))) 4294967295)))]) ok12 kk_111 (c_X12_write l D _ kk_111 e314) mi_X12_write in_X12_write se_X12_write kl_L_168 rfl rfl (lvh_sz hl) (by decide) (by decide) (Nat.le_of_ble_eq_true rfl) dL_law_1245 (fun H locs hw => ?_)
        refine r_lcmp C dL_law_1248 ?_
        refine r_if_eq C (tgt := 1356) (by decide) dL_law_1249 (fun c315 => ?_) (fun c315 => ?_)
        · have hf := ite_t c315 hf
          refine r_iinc C hl (kx := 3) rfl (by decide) (L' := [(3, 0, (x3 + 6)), (0, 3, (b0 : Int)), (1, 2, 0), (2, 2, 111)]) rfl dL_law_1356 (fun ls hl => ?_)
          refine r_goto C (tgt := 18) (by decide) dL_law_1359 ?_
          exact ih _ _ _ _ _ hf hw (lvh_sub hl [1, 2, 3, 0] rfl)
        · have hf := ite_f c315 hf
          refine r_iconst C dL_law_1252 ?_
          cases hf
      have hf := ite_f cs36 hf
      rcases Decidable.em (nrm (jand (sx xs (nrm x3)) 63) = 37) with cs37 | cs37
      · have hf := ite_t cs37 hf
        refine r_tabIn C (tgt := 1254) cs37 (by decide) (by decide) rfl (by decide) dL_law_33 ?_
        refine r_aload_n C hl (kx := 1) rfl rfl dL_law_1254 ?_
        refine r_load3 C hl (kx := 0) rfl rfl dL_law_1255 ?_
        refine r_iload_n C hl (kx := 3) rfl rfl dL_law_1256 ?_
        refine r_iconst C dL_law_1257 ?_
        refine r_iadd C dL_law_1258 ?_
        obtain ⟨g316, hf⟩ := gd_some hf
        refine r_sld C hw hX hbl hbl g316 dL_law_1259 ?_
        refine r_load3 C hl (kx := 0) rfl rfl dL_law_1260 ?_
        refine r_iload_n C hl (kx := 3) rfl rfl dL_law_1261 ?_
        refine r_iconst C dL_law_1262 ?_
        refine r_iadd C dL_law_1263 ?_
        obtain ⟨g317, hf⟩ := gd_some hf
        refine r_sld C hw hX hbl hbl g317 dL_law_1264 ?_
        obtain ⟨r319, μ318, e320, hf⟩ := bn_some hf
        refine r_callL C hw (K := [(0, (sx xs (nrm (x3 + 1)))), (0, (sx xs (nrm (x3 + 2))))]) ok11 kk_0 (c_X11_lists l D _ kk_0 e320) mi_X11_lists in_X11_lists se_X11_lists kl_L_169 rfl rfl (lvh_sz hl) (by decide) (by decide) (Nat.le_of_ble_eq_true rfl) dL_law_1265 (fun H locs hw => ?_)
        refine r_aload_n C hl (kx := 2) rfl rfl dL_law_1268 ?_
        refine r_load3 C hl (kx := 0) rfl rfl dL_law_1269 ?_
        refine r_iload_n C hl (kx := 3) rfl rfl dL_law_1270 ?_
        refine r_iconst C dL_law_1271 ?_
        refine r_iadd C dL_law_1272 ?_
        refine r_sld C hw hX hbl hbl g316 dL_law_1273 ?_
        refine r_load3 C hl (kx := 0) rfl rfl dL_law_1274 ?_
        refine r_iload_n C hl (kx := 3) rfl rfl dL_law_1275 ?_
        refine r_iconst C dL_law_1276 ?_
        refine r_iadd C dL_law_1277 ?_
        refine r_sld C hw hX hbl hbl g317 dL_law_1278 ?_
        obtain ⟨r322, μ321, e323, hf⟩ := bn_some hf
        refine r_callL C hw (K := [(0, (sx xs (nrm (x3 + 1)))), (0, (sx xs (nrm (x3 + 2))))]) ok12 kk_111 (c_X12_lists l D _ kk_111 e323) mi_X12_lists in_X12_lists se_X12_lists kl_L_172 rfl rfl (lvh_sz hl) (by decide) (by decide) (Nat.le_of_ble_eq_true rfl) dL_law_1279 (fun H locs hw => ?_)
        refine r_icmp_eq C (tgt := 1356) (by decide) dL_law_1282 (fun c324 => ?_) (fun c324 => ?_)
        · have hf := ite_t c324 hf
          refine r_iinc C hl (kx := 3) rfl (by decide) (L' := [(3, 0, (x3 + 6)), (0, 3, (b0 : Int)), (1, 2, 0), (2, 2, 111)]) rfl dL_law_1356 (fun ls hl => ?_)
          refine r_goto C (tgt := 18) (by decide) dL_law_1359 ?_
          exact ih _ _ _ _ _ hf hw (lvh_sub hl [1, 2, 3, 0] rfl)
        · have hf := ite_f c324 hf
          refine r_iconst C dL_law_1285 ?_
          cases hf
      have hf := ite_f cs37 hf
      rcases Decidable.em (nrm (jand (sx xs (nrm x3)) 63) = 38) with cs38 | cs38
      · have hf := ite_t cs38 hf
        refine r_tabIn C (tgt := 1287) cs38 (by decide) (by decide) rfl (by decide) dL_law_33 ?_
        refine r_aload_n C hl (kx := 1) rfl rfl dL_law_1287 ?_
        refine r_load3 C hl (kx := 0) rfl rfl dL_law_1288 ?_
        refine r_iload_n C hl (kx := 3) rfl rfl dL_law_1289 ?_
        refine r_iconst C dL_law_1290 ?_
        refine r_iadd C dL_law_1291 ?_
        obtain ⟨g325, hf⟩ := gd_some hf
        refine r_sld C hw hX hbl hbl g325 dL_law_1292 ?_
        obtain ⟨r327, μ326, e328, hf⟩ := bn_some hf
        refine r_callL C hw (K := [(0, (sx xs (nrm (x3 + 1))))]) ok11 kk_0 (c_X11_image l D _ kk_0 e328) mi_X11_image in_X11_image se_X11_image kl_L_173 rfl rfl (lvh_sz hl) (by decide) (by decide) (Nat.le_of_ble_eq_true rfl) dL_law_1293 (fun H locs hw => ?_)
        refine r_aload_n C hl (kx := 2) rfl rfl dL_law_1296 ?_
        refine r_load3 C hl (kx := 0) rfl rfl dL_law_1297 ?_
        refine r_iload_n C hl (kx := 3) rfl rfl dL_law_1298 ?_
        refine r_iconst C dL_law_1299 ?_
        refine r_iadd C dL_law_1300 ?_
        refine r_sld C hw hX hbl hbl g325 dL_law_1301 ?_
        obtain ⟨r330, μ329, e331, hf⟩ := bn_some hf
        refine r_callL C hw (K := [(0, (sx xs (nrm (x3 + 1))))]) ok12 kk_111 (c_X12_image l D _ kk_111 e331) mi_X12_image in_X12_image se_X12_image kl_L_176 rfl rfl (lvh_sz hl) (by decide) (by decide) (Nat.le_of_ble_eq_true rfl) dL_law_1302 (fun H locs hw => ?_)
        refine r_icmp_eq C (tgt := 1356) (by decide) dL_law_1305 (fun c332 => ?_) (fun c332 => ?_)
        · have hf := ite_t c332 hf
          refine r_iinc C hl (kx := 3) rfl (by decide) (L' := [(3, 0, (x3 + 6)), (0, 3, (b0 : Int)), (1, 2, 0), (2, 2, 111)]) rfl dL_law_1356 (fun ls hl => ?_)
          refine r_goto C (tgt := 18) (by decide) dL_law_1359 ?_
          exact ih _ _ _ _ _ hf hw (lvh_sub hl [1, 2, 3, 0] rfl)
        · have hf := ite_f c332 hf
          refine r_iconst C dL_law_1308 ?_
          cases hf
      have hf := ite_f cs38 hf
      rcases Decidable.em (nrm (jand (sx xs (nrm x3)) 63) = 39) with cs39 | cs39
      · have hf := ite_t cs39 hf
        refine r_tabIn C (tgt := 1310) cs39 (by decide) (by decide) rfl (by decide) dL_law_33 ?_
        refine r_aload_n C hl (kx := 1) rfl rfl dL_law_1310 ?_
        refine r_load3 C hl (kx := 0) rfl rfl dL_law_1311 ?_
        refine r_iload_n C hl (kx := 3) rfl rfl dL_law_1312 ?_
        refine r_iconst C dL_law_1313 ?_
        refine r_iadd C dL_law_1314 ?_
        obtain ⟨g333, hf⟩ := gd_some hf
        refine r_sld C hw hX hbl hbl g333 dL_law_1315 ?_
        obtain ⟨r335, μ334, e336, hf⟩ := bn_some hf
        refine r_callL C hw (K := [(0, (sx xs (nrm (x3 + 1))))]) ok11 kk_0 (c_X11_restore l D _ kk_0 e336) mi_X11_restore in_X11_restore se_X11_restore kl_L_177 rfl rfl (lvh_sz hl) (by decide) (by decide) (Nat.le_of_ble_eq_true rfl) dL_law_1316 (fun H locs hw => ?_)
        refine r_aload_n C hl (kx := 2) rfl rfl dL_law_1319 ?_
        refine r_load3 C hl (kx := 0) rfl rfl dL_law_1320 ?_
        refine r_iload_n C hl (kx := 3) rfl rfl dL_law_1321 ?_
        refine r_iconst C dL_law_1322 ?_
        refine r_iadd C dL_law_1323 ?_
        refine r_sld C hw hX hbl hbl g333 dL_law_1324 ?_
        obtain ⟨r338, μ337, e339, hf⟩ := bn_some hf
        refine r_callL C hw (K := [(0, (sx xs (nrm (x3 + 1))))]) ok12 kk_111 (c_X12_restore l D _ kk_111 e339) mi_X12_restore in_X12_restore se_X12_restore kl_L_180 rfl rfl (lvh_sz hl) (by decide) (by decide) (Nat.le_of_ble_eq_true rfl) dL_law_1325 (fun H locs hw => ?_)
        refine r_icmp_eq C (tgt := 1356) (by decide) dL_law_1328 (fun c340 => ?_) (fun c340 => ?_)
        · have hf := ite_t c340 hf
          refine r_iinc C hl (kx := 3) rfl (by decide) (L' := [(3, 0, (x3 + 6)), (0, 3, (b0 : Int)), (1, 2, 0), (2, 2, 111)]) rfl dL_law_1356 (fun ls hl => ?_)
          refine r_goto C (tgt := 18) (by decide) dL_law_1359 ?_
          exact ih _ _ _ _ _ hf hw (lvh_sub hl [1, 2, 3, 0] rfl)
        · have hf := ite_f c340 hf
          refine r_iconst C dL_law_1331 ?_
          cases hf
      have hf := ite_f cs39 hf
      rcases Decidable.em (nrm (jand (sx xs (nrm x3)) 63) = 40) with cs40 | cs40
      · have hf := ite_t cs40 hf
        refine r_tabIn C (tgt := 1333) cs40 (by decide) (by decide) rfl (by decide) dL_law_33 ?_
        refine r_aload_n C hl (kx := 1) rfl rfl dL_law_1333 ?_
        refine r_load3 C hl (kx := 0) rfl rfl dL_law_1334 ?_
        refine r_iload_n C hl (kx := 3) rfl rfl dL_law_1335 ?_
        refine r_iconst C dL_law_1336 ?_
        refine r_iadd C dL_law_1337 ?_
        obtain ⟨g341, hf⟩ := gd_some hf
        refine r_sld C hw hX hbl hbl g341 dL_law_1338 ?_
        obtain ⟨r343, μ342, e344, hf⟩ := bn_some hf
        refine r_callL C hw (K := [(0, (sx xs (nrm (x3 + 1))))]) ok11 kk_0 (c_X11_count l D _ kk_0 e344) mi_X11_count in_X11_count se_X11_count kl_L_181 rfl rfl (lvh_sz hl) (by decide) (by decide) (Nat.le_of_ble_eq_true rfl) dL_law_1339 (fun H locs hw => ?_)
        refine r_aload_n C hl (kx := 2) rfl rfl dL_law_1342 ?_
        refine r_load3 C hl (kx := 0) rfl rfl dL_law_1343 ?_
        refine r_iload_n C hl (kx := 3) rfl rfl dL_law_1344 ?_
        refine r_iconst C dL_law_1345 ?_
        refine r_iadd C dL_law_1346 ?_
        refine r_sld C hw hX hbl hbl g341 dL_law_1347 ?_
        obtain ⟨r346, μ345, e347, hf⟩ := bn_some hf
        refine r_callL C hw (K := [(0, (sx xs (nrm (x3 + 1))))]) ok12 kk_111 (c_X12_count l D _ kk_111 e347) mi_X12_count in_X12_count se_X12_count kl_L_184 rfl rfl (lvh_sz hl) (by decide) (by decide) (Nat.le_of_ble_eq_true rfl) dL_law_1348 (fun H locs hw => ?_)
        refine r_icmp_eq C (tgt := 1356) (by decide) dL_law_1351 (fun c348 => ?_) (fun c348 => ?_)
        · have hf := ite_t c348 hf
          refine r_iinc C hl (kx := 3) rfl (by decide) (L' := [(3, 0, (x3 + 6)), (0, 3, (b0 : Int)), (1, 2, 0), (2, 2, 111)]) rfl dL_law_1356 (fun ls hl => ?_)
          refine r_goto C (tgt := 18) (by decide) dL_law_1359 ?_
          exact ih _ _ _ _ _ hf hw (lvh_sub hl [1, 2, 3, 0] rfl)
        · have hf := ite_f c348 hf
          refine r_iconst C dL_law_1354 ?_
          cases hf
      have hf := ite_f cs40 hf
      refine r_tabOut C (tgt := 1356) (by omega) (by decide) dL_law_33 ?_
      refine r_iinc C hl (kx := 3) rfl (by decide) (L' := [(3, 0, (x3 + 6)), (0, 3, (b0 : Int)), (1, 2, 0), (2, 2, 111)]) rfl dL_law_1356 (fun ls hl => ?_)
      refine r_goto C (tgt := 18) (by decide) dL_law_1359 ?_
      exact ih _ _ _ _ _ hf hw (lvh_sub hl [1, 2, 3, 0] rfl)
