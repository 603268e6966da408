section START
variable {p : Program} {l : Launch} {e : Env} {R : Room} {s : State} {m : MethodId} {args : Array Value} {below : List Frame} {meth : Method} {c : Code} {H : Heap} {locs : List Loc} {cells slots : Nat} {Q : State → Prop}
variable {D : Ds} {cc : ByteArray} {nL : Nat} {own : String} {ret : Option FieldType} {pc : Nat} {ls : Array Slot} {rest : List Value} {b n : Nat} {ν : Mem}
variable {y : MethodName} {bytes : ByteArray} {maxL d' na idx mc ms n' : Nat} {ν' : Mem}
theorem rl_new (C : Cx p s m args meth c D b cc nL own ret) (h : Rw D b n ν s.heap H locs) {t N idx : Nat} {Cn : String} {T : u_T} {ty : Nat → FieldType} (hC : ClsOk t Cn T N ty) (hk : kd (n : Int) = t) (hdf : ∀ j, j < N → defaultValue (ty j) = if ftg t j = -1 then .int (jI 0) else .null) (hcl : Cond.classLink own idx Cn ∈ gT) (hins : Cond.instantiable Cn N ∈ gT) (hini : Cond.initialized Cn ∈ gT) (hcells : cells + 1 ≤ R.cells) (hslots : slots + N ≤ R.slots) (hd : decode cc pc = .ok (.new idx, 3)) {z : Int} (hz : (n : Int) = z)
    (k : ∀ H : Heap, Rw D b (n + 1) ν s.heap H locs → W p l e R s m args below meth c H locs (cells + 1) (slots + N) Q (F0 m (pc + 3) ls (rfv b z :: rest))) : W p l e R s m args below meth c H locs cells slots Q (F0 m pc ls rest) := by
  subst hz
  obtain ⟨hc, hN, ht, hin, hty, hnm⟩ := hC
  obtain ⟨hsz, hG, hS, hF⟩ := h
  have hts := C.2.2.2.2.1
  have hKn := C.2.2.2.2.2.1.1 t _ hc
  refine W.newcK C.1 C.2.1 C.2.2.2.1 (hts _ hcl) (hts _ hins) (hts _ hini) rfl hd hcells hslots hKn.2.1 hsz fun H1 kC hkC e1 z1 o1 => ?_
  rw [← hsz] at o1
  have kk := k H1 ⟨by omega, hG.more hsz o1 ?_, ⟨by have := hS.1; omega, fun x h1 h2 => (o1 x (by have := hS.1; omega)).trans (hS.2.1 x h1 h2), hS.2.2⟩, fun q hq j => hF q (by omega) j⟩
  · rw [rfv_ref (by omega)] at kk; exact kk
  · rw [hk, rent_obj ht]
    refine ⟨_, hc, (u_born ty hts hin hKn hkC e1 hty).to (fun j hj => ?_)⟩
    unfold vp_V
    rw [List.getD_eq_getElem?_getD, rfs_at (by rw [hN]; exact hj), hdf j hj, hF n (Int.le_refl _) j]
    unfold rdf
    rw [hk, if_pos ht]
    show _ = rval b (ftg t j) (if ftg t (Int.toNat (j : Int)) = -1 then 0 else -1)
    rw [Int.toNat_natCast]
    unfold rval
    by_cases e9 : ftg t j = -1
    · rw [if_pos e9, if_pos e9, if_pos e9]
    · rw [if_neg e9, if_neg e9, if_neg e9]; rfl
theorem preL_ok (C : Cx p s m args meth c D b cc nL own ret) (hA : AOs s) (hG : StrG D b s) (h : Rw D b n ν s.heap H locs) {av : List Value} : PreS s H (PreR D b n ν av) av := ⟨fun a U g mk q => ⟨q.1, q.2.1, q.2.2.1, q.2.2.2.1, va_K.moved (u := U) (U := U.calling g mk a) (Vm.Alike.refl U.vm) q.2.2.2.2.1, q.2.2.2.2.2.1.same rfl rfl, AOs.moved (u := U) (U := U.calling g mk a) (Vm.Alike.refl U.vm) q.2.2.2.2.2.2⟩, fun U hU hW => ⟨rfl, by rw [hU]; exact h.1, by rw [hU]; exact h.2.1, h.2.2.2, va_K.moved hW.alike C.2.2.2.2.2.1, hG.moved h.2.2.1 hU hW, AOs.moved hW.alike hA⟩⟩
theorem rl_run {Qc : Array Value → State → Outcome → State → Prop} (C : Cx p s m args meth c D b cc nL own ret) (hA : AOs s) (hG : StrG D b s) (h : Rw D b n ν s.heap H locs) {o : Int} {st0 : List Value} (hM : Met l y (Cond.code y bytes maxL none :: gT) (rmI d' mc ms) (PreR D b n ν (vls b [(2, o)])) Qc mc ms (Ag b)) (hm : Mi y bytes maxL none 0) (hi : Cond.instanceMethod y ∈ gT) (hname : y.name = "<init>") (hlk : Cond.methodLink own idx y ∈ gT) (ho : 0 ≤ o) (hst : rfv b o :: rest = st0) (hz : ls.size = nL) (hR : d' + 1 ≤ R.frames ∧ 8 + (maxL + 11) + 41 * d' ≤ R.locals) (hr : rest.length ≤ 4) (hf : cells + mc ≤ R.cells ∧ slots + ms ≤ R.slots) (hd : decode cc pc = .ok (.invokespecial idx, 3)) :
    va_Run p l e R s m args below meth c H locs cells slots mc ms (F0 m pc ls st0) rest (Qc (Value.ref (b + o.toNat) :: []).toArray) (Ag b) := by
  have hM' : Met l y (Cond.code y bytes maxL none :: gT) (rmI d' mc ms) (PreR D b n ν [rfv b o]) Qc mc ms (Ag b) := hM
  rw [rfv_ref ho] at hM' hst
  obtain ⟨h1, h2, h3, h4⟩ := hm
  have ht := C.2.2.2.2.1
  exact va_runI (As := []) (rest := rest) ⟨C.1, C.2.1, C.2.2.1, C.2.2.2.1, ht⟩ hM' ⟨callB_of 0 ht (good_all h1) rfl rfl rfl (ht _ h2) (ht _ hlk) ⟨h3.1, h3.2, h4⟩ hR, hname, ht _ hi⟩ (preL_ok C hA hG h) rfl rfl hz hst.symm (lv_room (cat_len rest hr)) hd hf
end START
def nu0 : Mem := fun k j => rdf k j
def nuF : Mem := i_X12_111 (i_X11_0 nu0)
set_option maxRecDepth 20000 in
theorem top_ok : TopO nuF := by
  refine ⟨?_, ?_⟩ <;> decide +kernel
set_option maxHeartbeats 4000000 in
set_option maxRecDepth 20000 in
theorem whole_of {p : Program} {e : Env} {s : State} {m : MethodId} {below : List Frame} {meth : Method} {c : Code} (l : Launch) {b0 L : Nat} {xs : Nat → Int32} {r : Int} {μ0 μ' : Mem} {n : Nat} (hp : f_X12_plain 112 nuF = some (r, μ0)) (hf : f_law L xs n 0 μ0 = some (1, μ')) (C0 : lw_At p s m meth c b0 L xs) : W p l e room_1 s m #[Value.ref b0] below meth c s.heap [] 0 0 (lw_Z below #[Value.ref b0] s) (entryFrame m ([Value.ref b0] : List Value).toArray 4) := by
  obtain ⟨D, C, hG, hA⟩ := law_ctx C0
  obtain ⟨-, -, -, -, -, -, hX, hbl, -, -⟩ := C0
  have hl0 := lv_entry ([.ref b0]) (n := 4) (Nat.le_of_ble_eq_true rfl)
  rw [lg_entry_eq]
  generalize (lg_sl ([.ref b0]) ++ List.replicate (4 - (lg_sl ([.ref b0])).length) Slot.unset).toArray = ls at hl0 ⊢
  have hl : lvh s.heap.size ls 4 [(0, 3, (b0 : Int))] := hl0
  have h : Rw D s.heap.size 0 nu0 s.heap s.heap [] := ⟨rfl, fun k hk => absurd hk (Nat.not_lt_zero k), va_S.rf, fun k _ j => rfl⟩
  refine rl_new C h ok11 (kk_0).2 df_11 kd_L_7 kn_11 ki_RX11 (by decide) (by decide) dL_law_0 (z := 0) rfl (fun H h => ?_)
  refine r_dup C (rfv_cat _ _) dL_law_3 ?_
  refine call_onI h (rl_run C hA hG h (ci_X11_0 l D _) mi_X11_init in_X11_init rfl kl_L_9 (by decide) rfl (lvh_sz hl) (by decide) (Nat.le_of_ble_eq_true rfl) (by decide) dL_law_4) (fun H locs h => ?_)
  refine r_astore_n C hl (by decide) (L' := [(1, 2, 0), (0, 3, (b0 : Int))]) rfl rfl dL_law_7 (fun ls hl => ?_)
  refine rl_new C h ok12 (kk_111).2 df_12 kd_L_10 kn_12 ki_RX12 (by decide) (by decide) dL_law_8 (z := 111) rfl (fun H h => ?_)
  refine r_dup C (rfv_cat _ _) dL_law_11 ?_
  have hr := rl_run (p := p) (e := e) (R := room_1) (below := below) (cells := 112) (slots := 7165) (rest := [rfv s.heap.size 111]) C hA hG h (ci_model l D _ top_ok hp) mi_X12_init in_X12_init rfl kl_L_12 (by decide) rfl (lvh_sz hl) (by decide) (Nat.le_of_ble_eq_true rfl) (by decide) dL_law_12
  intro T hT X
  obtain ⟨v, st₀, t, T', L9, h0, X', hL9, e1, e2, ⟨hv, hG2, hz, hk⟩, stp⟩ := hr T hT X
  cases hv
  rw [h0] at hz hk
  have hS := h.2.2.1
  have hS2 : va_S (Ag s.heap.size) s.heap T'.heap (locs ++ L9) := ⟨Nat.le_trans hS.1 (by rw [e1]; exact hz), fun q h1 h2 => by rw [e1, hk q (Nat.lt_of_lt_of_le h1 hS.1) h2]; exact hS.2.1 q h1 h2, fun q hq => by
      rcases List.mem_append.mp hq with h | h
      · exact hS.2.2 q h
      · exact hL9 q h⟩
  have kk : W p l e room_1 s m #[Value.ref b0] below meth c T'.heap (locs ++ L9) 129 20805 (lw_Z below #[Value.ref b0] s) (F0 m 15 ls [rfv s.heap.size 111]) := by
    refine va_forget (fun q hq => hS2.2.2 q hq) ?_
    have hw : Hw D s.heap.size μ0 s.heap T'.heap [] := ⟨by rw [e1]; exact hG2, ⟨hS2.1, fun q h1 h2 => hS2.2.1 q h1 (fun z => absurd (show s.heap.size ≤ q from z) (Nat.not_le.mpr h1)), fun _ h => by cases h⟩⟩
    refine r_astore_n C hl (by decide) (L' := [(2, 2, 111), (1, 2, 0), (0, 3, (b0 : Int))]) rfl rfl dL_law_15 (fun ls hl => ?_)
    refine r_iconst C dL_law_16 ?_
    refine r_istore_n C hl (by decide) (L' := [(3, 0, 0), (2, 2, 111), (1, 2, 0), (0, 3, (b0 : Int))]) rfl rfl dL_law_17 (fun ls hl => ?_)
    exact w_law C hX hbl n 0 μ0 _ _ _ hf hw (lvh_sub hl [3, 2, 1, 0] rfl)
  obtain ⟨t2, a1, b1⟩ := kk T' rfl X'
  exact ⟨t2, stp t2 a1, b1⟩
