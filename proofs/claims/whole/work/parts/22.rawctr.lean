/-- links to a nest mate's private constructor -/
def nestL : List (String × Nat × MethodName × String) := [(RX11, 15, yX7_init, "RutWays"), (RX7, 11, yX9_init, "RutWays"), (RX3, 32, yX4_init, "RutWays"), (RX11, 60, yX10_init, "RutWays"), (RX11, 63, yX6_init, "RutWays"), (RX11, 70, yX8_init, "RutWays"), (RX11, 77, yX1_init, "RutWays"), (RX11, 84, yX5_init, "RutWays")]
def NLs (U : State) : Prop := ∀ q ∈ nestL, va_Nw (.methodLinkNest q.1 q.2.1 q.2.2.1 q.2.2.2) U
def StrG (D : Ds) (b : Nat) (U : State) : Prop := vk_S 3 lenS bytS D.2.2.1 D.2.2.2 (Ag b) U U.heap ∧ vk_R "RutWays$Tokens" 75 (txS.getD 0 "") (D.2.2.1 0) U ∧ vk_R "RutWays$Tokens" 49 (txS.getD 1 "") (D.2.2.1 1) U ∧ vk_R "RutWaysModel" 80 (txS.getD 2 "") (D.2.2.1 2) U ∧ vk_R "RutWaysModel" 118 (txS.getD 1 "") (D.2.2.1 1) U ∧ va_Z "java/lang/String" "COMPACT_STRINGS" "Z" (.int (jI 1)) (Ag b) U U.heap ∧ va_Zq "jdk/internal/util/Preconditions" "SIOOBE_FORMATTER" "Ljava/util/function/BiFunction;" (Ag b) U U.heap ∧ NLs U
theorem StrG.ok {D : Ds} {b : Nat} {U : State} (h : StrG D b U) : StrOk D b U :=
  ⟨h.1.narrow (fun q hq => hq.1), h.2.1, h.2.2.1, h.2.2.2.1, h.2.2.2.2.1, h.2.2.2.2.2.1.narrow (fun q hq => hq.1), h.2.2.2.2.2.2.1.narrow (fun q hq => hq.1)⟩
theorem StrG.moved {D : Ds} {b : Nat} {s U : State} {H : Heap} {locs : List Loc} (h : StrG D b s) (hS : va_S (Ag b) s.heap H locs) (hU : U.heap = H) (hW : s.WarmedH U.vm) : StrG D b U := by
  obtain ⟨h1, h2, h3, h4, h5, h6, h7, h8⟩ := h
  have hq : ∀ a : Nat, a < s.heap.size → ¬ Ag b a → U.heap[a]? = s.heap[a]? := by rw [hU]; exact hS.2.1
  exact ⟨(h1.kept hq).moved hW.alike, h2.warm hW, h3.warm hW, h4.warm hW, h5.warm hW, (h6.kept hq).moved hW.alike, (h7.kept hq).moved hW.alike, fun q hq => (h8 q hq).warmM hW⟩
theorem StrG.same {D : Ds} {b : Nat} {U V : State} (h : StrG D b U) (hh : V.heap = U.heap) (hv : V.vm = U.vm) : StrG D b V := by
  obtain ⟨h1, h2, h3, h4, h5, h6, h7, h8⟩ := h
  have ha : U.vm.Alike V.vm := by rw [hv]; exact Vm.Alike.refl _
  rw [← hh] at h1 h6 h7
  exact ⟨h1.moved ha, h2.same hv, h3.same hv, h4.same hv, h5.same hv, h6.moved ha, h7.moved ha, fun q hq => va_Nw.same rfl hv.symm (h8 q hq)⟩
def FrF (n : Nat) (ν : Mem) : Prop := ∀ k : Int, (n : Int) ≤ k → ∀ j, ν k j = rdf k j
def AOs (U : State) : Prop := va_AO "RutWays$Land" U ∧ va_AO "RutWays$Course" U ∧ va_AO "RutWays$Tray" U
theorem AOs.moved {u U : State} (hvm : u.vm.Alike U.vm) (h : AOs u) : AOs U := ⟨h.1.moved hvm, h.2.1.moved hvm, h.2.2.moved hvm⟩
def PreR (D : Ds) (b n : Nat) (ν : Mem) (av : List Value) : Array Value → State → Prop := fun v U => v = av.toArray ∧ U.heap.size = b + n ∧ Gw D b n kd ν U.heap ∧ FrF n ν ∧ va_K D.1 vw (tysD D) U ∧ StrG D b U ∧ AOs U
def PostR (D : Ds) (b n' : Nat) (ν' : Mem) : Array Value → State → Outcome → State → Prop := fun _ st o t => o = .returned none ∧ t.heap.size = b + n' ∧ Gw D b n' kd ν' t.heap ∧ FrF n' ν' ∧ va_F (Ag b) st t
abbrev rmI (d mc ms : Nat) : Room := { frames := d, cells := mc, slots := ms, locals := 41 * d }
def CtrI (l : Launch) (D : Ds) (b : Nat) (y : MethodName) (cc : ByteArray) (maxL d mc ms : Nat) (K : Av) (n : Nat) (ν : Mem) (n' : Nat) (ν' : Mem) : Prop :=
  Met l y (Cond.code y cc maxL none :: gT) (rmI d mc ms) (PreR D b n ν (vls b K)) (PostR D b n' ν') mc ms (Ag b)
abbrev QI (below : List Frame) (args : Array Value) (s : State) (D : Ds) (b n' : Nat) (ν' : Mem) (mc ms : Nat) : State → Prop := MQ below (PostR D b n' ν') args s mc ms (Ag b)
theorem CtrI.of {l : Launch} {D : Ds} {b : Nat} {y : MethodName} {cc : ByteArray} {maxL d mc ms n n' : Nat} {K : Av} {ν ν' : Mem} (hy : plainFor y = true) (hnm : y.name = "<init>") (hlen : lsz K ≤ maxL)
    (body : ∀ (p : Program) (e : Env) (s : State) (m : MethodId) (below : List Frame) (meth : Method) (c : Code), CxI p s m (vls b K).toArray meth c D b cc maxL y.cls → StrG D b s → Rw D b n ν s.heap s.heap [] → ∀ ls : Array Slot, lvh b ls maxL (lva 0 K) → W p l e (rmI d mc ms) s m (vls b K).toArray below meth c s.heap [] 0 0 (QI below (vls b K).toArray s D b n' ν' mc ms) (F0 m 0 ls [])) : CtrI l D b y cc maxL d mc ms K n ν n' ν' := by
  refine va_MetF (cc := cc) (maxL := maxL) (ret := none) hy rfl ?_
  intro p e s m args below meth c s₁ B hml hv
  obtain ⟨rfl, hsz, hP, hF, hK, hO, hA⟩ := hv
  have hts := atoms_spec (ws := Cond.code y cc maxL none :: gT) B.pre
  have hl := lv_entry (vls b K) (n := maxL) (by rw [lsz_eq]; exact hlen)
  rw [lva_eq] at hl
  rw [lg_entry_eq]
  exact body p e s m below meth c ⟨⟨B.exec, B.bytes, hml, findClass_of_methodNamed B.named, fun w h => hts w (List.mem_cons_of_mem _ h), hK, B.returns, B.notSynchronized, hO.ok⟩, (name_of_methodNamed B.named B.method).1.trans hnm, hA.1, hA.2.1, hA.2.2⟩ hO ⟨hsz, hP, va_S.rf, hF⟩ _ hl
section RCALL
variable {p : Program} {l : Launch} {e : Env} {R : Room} {s : State} {m : MethodId} {args : Array Value} {below : List Frame} {meth : Method} {c : Code} {H : Heap} {locs : List Loc} {cells slots : Nat} {Q : State → Prop}
variable {D : Ds} {cc : ByteArray} {nL : Nat} {own : String} {pc : Nat} {ls : Array Slot} {rest : List Value} {b n : Nat} {ν : Mem}
variable {y : MethodName} {bytes : ByteArray} {maxL d' na idx mc ms n' : Nat} {ν' : Mem}
theorem good_all {maxL' : Nat} {ret' : Option FieldType} (h1 : Cond.code y bytes maxL' ret' ∈ gT) : GoodIn gT (Cond.code y bytes maxL' ret' :: gT) := fun w hw => by
  have hw' : w ∈ gT := (List.mem_cons.mp hw).elim (fun q => q ▸ h1) id
  exact ⟨hw', good_of_word (gT_good w hw').2⟩
theorem call_onI {st0 : List Value} {a : Array Value} (h : Rw D b n ν s.heap H locs) (hr : va_Run p l e R s m args below meth c H locs cells slots mc ms (F0 m pc ls st0) rest (PostR D b n' ν' a) (Ag b))
    (k : ∀ (H : Heap) (locs : List Loc), Rw D b n' ν' s.heap H locs → W p l e R s m args below meth c H locs (cells + mc) (slots + ms) Q (F0 m (pc + 3) ls rest)) : W p l e R s m args below meth c H locs cells slots Q (F0 m pc ls st0) := by
  intro T hT X
  obtain ⟨v, st₀, t, T', L, h0, X', hL, e1, e2, ⟨hv, hsz, hG, hF, hz, hk⟩, st⟩ := hr T hT X
  cases hv
  rw [h0] at hz hk
  have hS := h.2.2.1
  obtain ⟨t2, a1, b1⟩ := k T'.heap (locs ++ L) ⟨by rw [e1]; exact hsz, by rw [e1]; exact hG, ⟨Nat.le_trans hS.1 (by rw [e1]; exact hz), fun q h1 h2 => by rw [e1, hk q (Nat.lt_of_lt_of_le h1 hS.1) h2]; exact hS.2.1 q h1 h2, fun q hq => by
      rcases List.mem_append.mp hq with h | h
      · exact hS.2.2 q h
      · exact hL q h⟩, hF⟩ T' rfl X'
  exact ⟨t2, st t2 a1, b1⟩
theorem preR_ok (C : CxI p s m args meth c D b cc nL own) (hG : StrG D b s) (h : Rw D b n ν s.heap H locs) {av : List Value} : PreS s H (PreR D b n ν av) av := ⟨fun a U g mk q => ⟨q.1, q.2.1, q.2.2.1, q.2.2.2.1, va_K.moved (u := U) (U := U.calling g mk a) (Vm.Alike.refl U.vm) q.2.2.2.2.1, q.2.2.2.2.2.1.same rfl rfl, AOs.moved (u := U) (U := U.calling g mk a) (Vm.Alike.refl U.vm) q.2.2.2.2.2.2⟩, fun U hU hW => ⟨rfl, by rw [hU]; exact h.1, by rw [hU]; exact h.2.1, h.2.2.2, va_K.moved hW.alike C.1.2.2.2.2.2.1, hG.moved h.2.2.1 hU hW, AOs.moved hW.alike ⟨C.2.2.1, C.2.2.2.1, C.2.2.2.2⟩⟩⟩
theorem rr_callI (C : CxI p s m args meth c D b cc nL own) (hG : StrG D b s) (h : Rw D b n ν s.heap H locs) {o : Int} {K : Av} {st0 : List Value} (hM : CtrI l D b y bytes maxL d' mc ms ((2, o) :: K) n ν n' ν') (hm : Mi y bytes maxL none na) (hi : Cond.instanceMethod y ∈ gT) (hname : y.name = "<init>") (hlk : Cond.methodLink own idx y ∈ gT) (ho : 0 ≤ o) (hst : (vls b K).reverse ++ rfv b o :: rest = st0) (hn : K.length = na) (hz : ls.size = nL) (hR : d' + 1 ≤ R.frames ∧ 8 + (maxL + 11) + 41 * d' ≤ R.locals) (hr : rest.length ≤ 4) (hf : cells + mc ≤ R.cells ∧ slots + ms ≤ R.slots) (hd : decode cc pc = .ok (.invokespecial idx, 3))
    (k : ∀ (H : Heap) (locs : List Loc), Rw D b n' ν' s.heap H locs → W p l e R s m args below meth c H locs (cells + mc) (slots + ms) Q (F0 m (pc + 3) ls rest)) : W p l e R s m args below meth c H locs cells slots Q (F0 m pc ls st0) := by
  have hM' : Met l y (Cond.code y bytes maxL none :: gT) (rmI d' mc ms) (PreR D b n ν (rfv b o :: vls b K)) (PostR D b n' ν') mc ms (Ag b) := hM
  rw [rfv_ref ho] at hM' hst
  obtain ⟨h1, h2, h3, h4⟩ := hm
  have ht := C.1.2.2.2.2.1
  exact call_onI h (va_runI (As := vls b K) (rest := rest) ⟨C.1.1, C.1.2.1, C.1.2.2.1, C.1.2.2.2.1, ht⟩ hM' ⟨callB_of na ht (good_all h1) rfl rfl rfl (ht _ h2) (ht _ hlk) ⟨h3.1, h3.2, h4⟩ hR, hname, ht _ hi⟩ (preR_ok C hG h) rfl (by rw [List.length_map]; exact hn) hz hst.symm (lv_room (cat_len rest hr)) hd hf) k
theorem rr_callN (C : CxI p s m args meth c D b cc nL own) (hG : StrG D b s) (h : Rw D b n ν s.heap H locs) {o : Int} {K : Av} {st0 : List Value} (hM : CtrI l D b y bytes maxL d' mc ms ((2, o) :: K) n ν n' ν') (hm : Mi y bytes maxL none na) (hi : Cond.instanceMethod y ∈ gT) (hname : y.name = "<init>") {host : String} (hlk : (own, idx, y, host) ∈ nestL) (ho : 0 ≤ o) (hst : (vls b K).reverse ++ rfv b o :: rest = st0) (hn : K.length = na) (hz : ls.size = nL) (hR : d' + 1 ≤ R.frames ∧ 8 + (maxL + 11) + 41 * d' ≤ R.locals) (hr : rest.length ≤ 4) (hf : cells + mc ≤ R.cells ∧ slots + ms ≤ R.slots) (hd : decode cc pc = .ok (.invokespecial idx, 3))
    (k : ∀ (H : Heap) (locs : List Loc), Rw D b n' ν' s.heap H locs → W p l e R s m args below meth c H locs (cells + mc) (slots + ms) Q (F0 m (pc + 3) ls rest)) : W p l e R s m args below meth c H locs cells slots Q (F0 m pc ls st0) := by
  have hM' : Met l y (Cond.code y bytes maxL none :: gT) (rmI d' mc ms) (PreR D b n ν (rfv b o :: vls b K)) (PostR D b n' ν') mc ms (Ag b) := hM
  rw [rfv_ref ho] at hM' hst
  obtain ⟨h1, h2, h3, h4⟩ := hm
  have ht := C.1.2.2.2.2.1
  refine call_onI h (va_runIN (n := na) (As := vls b K) (rest := rest) ⟨C.1.1, C.1.2.1, C.1.2.2.1, C.1.2.2.2.1, ht⟩ hM' ⟨⟨⟨rfl, rfl, hR.1, hR.2, pay_in ht (good_all h1), List.mem_cons_self⟩, ht _ h1, ht _ h2, h3, fun sig hs => ?_, va_Nw.use rfl (hG.2.2.2.2.2.2.2 _ hlk)⟩, hname, ht _ hi⟩ (preR_ok C hG h) rfl (by rw [List.length_map]; exact hn) hz hst.symm (lv_room (cat_len rest hr)) hd hf) k
  rw [hs] at h4
  exact (Option.some.inj h4).symm
theorem rr_vret (C : CxI p s m args meth c D b cc nL own) (h : Rw D b n ν s.heap H locs) (hd : decode cc pc = .ok (.return_, 1)) : W p l e R s m args below meth c H locs cells slots (QI below args s D b n ν cells slots) (F0 m pc ls []) :=
  W.vret C.1.1 C.1.2.1 C.1.2.2.2.2.2.2.1 (fun t ht hW => ⟨rfl, by rw [ht]; exact h.1, by rw [ht]; exact h.2.1, h.2.2.2, h.2.2.1.F ht⟩) h.2.2.1.2.2 hd C.1.2.2.2.2.2.2.2.1
theorem rr_obj (C : CxI p s m args meth c D b cc nL own) {o : Int} (ho : 0 ≤ o) (hlk : Cond.methodLink own idx objectInit ∈ gT) (hi : Cond.instanceMethod objectInit ∈ gT) (hco : Cond.code objectInit ⟨#[0xb1]⟩ 1 none ∈ gT) (hz : ls.size = nL) (hR : 1 ≤ R.frames ∧ 20 ≤ R.locals) (hr : rest.length ≤ 4) (hd : decode cc pc = .ok (.invokespecial idx, 3)) (k : W p l e R s m args below meth c H locs cells slots Q (F0 m (pc + 3) ls rest)) : W p l e R s m args below meth c H locs cells slots Q (F0 m pc ls (rfv b o :: rest)) := by
  rw [rfv_ref ho]
  have ht := C.1.2.2.2.2.1
  have hcat := cat_len rest hr
  refine W.objInit C.1.1 C.1.2.1 C.1.2.2.2.1 (ht _ hlk) (ht _ hi) (ht _ hco) rfl (by rw [C.1.2.2.1]; exact hz) rfl hd hR.1 ?_ k
  show 2 * 0 + _ + 12 ≤ _
  omega
end RCALL
