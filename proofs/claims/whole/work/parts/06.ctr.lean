/-! contracts: a method returns, its answer and the memory behind it -/
def PreC (D : Ds) (b : Nat) (av : List Value) (μ : Mem) : Array Value → State → Prop := fun v U => v = av.toArray ∧ Gw D b NC kd (mg μ) U.heap ∧ va_K D.1 vw (tysD D) U ∧ StrOk D b U
def Post (D : Ds) (b : Nat) (ov : Option Value) (μ' : Mem) : Array Value → State → Outcome → State → Prop := fun _ st o t => o = .returned ov ∧ Gw D b NC kd (mg μ') t.heap ∧ va_F (Ab b NC) st t
abbrev rm (d : Nat) : Room := { frames := d, cells := 0, slots := 0, locals := 41 * d }
def Ctr (l : Launch) (D : Ds) (b : Nat) (y : MethodName) (cc : ByteArray) (maxL : Nat) (ret : Option FieldType) (d : Nat) (K : Av) (μ : Mem) (ov : Option Value) (μ' : Mem) : Prop :=
  Met l y (Cond.code y cc maxL ret :: gT) (rm d) (PreC D b (vls b K) μ) (Post D b ov μ') 0 0 (Ab b NC)
abbrev QM (below : List Frame) (args : Array Value) (s : State) (D : Ds) (b : Nat) (ov : Option Value) (μ' : Mem) : State → Prop := MQ below (Post D b ov μ') args s 0 0 (Ab b NC)
theorem PreC.blind (D : Ds) (b : Nat) (av : List Value) (μ : Mem) : FrameBlind (PreC D b av μ) := fun a U g mk q => ⟨q.1, q.2.1, va_K.moved (u := U) (U := U.calling g mk a) (Vm.Alike.refl U.vm) q.2.2.1, q.2.2.2.same rfl rfl⟩
theorem Ctr.of {l : Launch} {D : Ds} {b : Nat} {y : MethodName} {cc : ByteArray} {maxL : Nat} {ret : Option FieldType} {d : Nat} {K : Av} {μ : Mem} {ov : Option Value} {μ' : Mem} (hy : plainFor y = true) (hlen : lsz K ≤ maxL)
    (body : ∀ (p : Program) (e : Env) (s : State) (m : MethodId) (below : List Frame) (meth : Method) (c : Code), Cx p s m (vls b K).toArray meth c D b cc maxL y.cls ret → Hw D b μ s.heap s.heap [] → ∀ ls : Array Slot, lvh b ls maxL (lva 0 K) → W p l e (rm d) s m (vls b K).toArray below meth c s.heap [] 0 0 (QM below (vls b K).toArray s D b ov μ') (F0 m 0 ls [])) : Ctr l D b y cc maxL ret d K μ ov μ' := by
  refine va_MetF (cc := cc) (maxL := maxL) (ret := ret) hy rfl ?_
  intro p e s m args below meth c s₁ B hml hv
  obtain ⟨rfl, hP, hK, hO⟩ := hv
  have hts := atoms_spec (ws := Cond.code y cc maxL ret :: gT) B.pre
  have hl := lv_entry (vls b K) (n := maxL) (by rw [lsz_eq]; exact hlen)
  rw [lva_eq] at hl
  rw [lg_entry_eq]
  exact body p e s m below meth c ⟨B.exec, B.bytes, hml, findClass_of_methodNamed B.named, fun w h => hts w (List.mem_cons_of_mem _ h), hK, B.returns, B.notSynchronized, hO⟩ ⟨hP, va_S.rf⟩ _ hl
/-- what the tables say of a method: its code, that its class is there, how many arguments -/
def Mi (y : MethodName) (cc : ByteArray) (maxL : Nat) (ret : Option FieldType) (n : Nat) : Prop := Cond.code y cc maxL ret ∈ gT ∧ Cond.initialized y.cls ∈ gT ∧ (y.cls ≠ "java/lang/invoke/MethodHandle" ∧ y.cls ≠ "java/lang/invoke/VarHandle") ∧ (parseMethodDescriptor y.desc).map (fun d => d.parameters.length) = some n
section CALL
variable {p : Program} {l : Launch} {e : Env} {R : Room} {s : State} {m : MethodId} {args : Array Value} {below : List Frame} {meth : Method} {c : Code} {H : Heap} {locs : List Loc} {Q : State → Prop}
variable {D : Ds} {cc : ByteArray} {nL : Nat} {own : String} {ret : Option FieldType} {pc : Nat} {ls : Array Slot} {rest : List Value} {b : Nat} {μ μ' : Mem}
variable {y : MethodName} {bytes : ByteArray} {maxL : Nat} {ret' : Option FieldType} {d' n idx : Nat} {ov : Option Value}
theorem callB_row (C : Cx p s m args meth c D b cc nL own ret) (hm : Mi y bytes maxL ret' n) (hlk : Cond.methodLink own idx y ∈ gT) (hR : d' + 1 ≤ R.frames ∧ 8 + (maxL + 11) + 41 * d' ≤ R.locals) : CallB R s args own idx y bytes maxL ret' (Cond.code y bytes maxL ret' :: gT) (rm d') 0 0 n := by
  obtain ⟨h1, h2, h3, h4⟩ := hm
  have ht := C.2.2.2.2.1
  have hG : GoodIn gT (Cond.code y bytes maxL ret' :: gT) := fun w hw => by
    have hw' : w ∈ gT := (List.mem_cons.mp hw).elim (fun q => q ▸ h1) id
    exact ⟨hw', good_of_word (gT_good w hw').2⟩
  exact callB_of n ht hG rfl rfl rfl (ht _ h2) (ht _ hlk) ⟨h3.1, h3.2, h4⟩ hR
theorem call_on {st0 : List Value} {a : Array Value} (hw : Hw D b μ s.heap H locs) (hr : va_Run p l e R s m args below meth c H locs 0 0 0 0 (F0 m pc ls st0) rest (Post D b ov μ' a) (Ab b NC))
    (k : ∀ (H : Heap) (locs : List Loc), Hw D b μ' s.heap H locs → W p l e R s m args below meth c H locs 0 0 Q (F0 m (pc + 3) ls (ov.toList ++ rest))) : W p l e R s m args below meth c H locs 0 0 Q (F0 m pc ls st0) := by
  intro T hT X
  obtain ⟨v, st₀, t, T', L, h0, X', hL, e1, e2, ⟨hv, hG, hz, hk⟩, st⟩ := hr T hT X
  cases hv
  rw [h0] at hz hk
  have hS := hw.2
  obtain ⟨t2, a1, b1⟩ := k T'.heap (locs ++ L) ⟨by rw [e1]; exact hG, ⟨Nat.le_trans hS.1 (by rw [e1]; exact hz), fun q h1 h2 => by rw [e1, hk q (Nat.lt_of_lt_of_le h1 hS.1) h2]; exact hS.2.1 q h1 h2, fun q hq => by
      rcases List.mem_append.mp hq with h | h
      · exact hS.2.2 q h
      · exact hL q h⟩⟩ T' rfl X'
  exact ⟨t2, st t2 a1, b1⟩
theorem recvK (hw : Hw D b μ s.heap H locs) (hK : va_K D.1 vw (tysD D) s) {o : Int} {t N : Nat} {Cn : String} {T : u_T} {ty : Nat → FieldType} (hC : ClsOk t Cn T N ty) (ho : isK o t) : ∃ cell : Cell, H[b + o.toNat]? = some cell ∧ cell.vm.isStatics = false ∧ s.vm.findClass Cn = some cell.cls := by
  have he := wl_k (D := D) (b := b) (μ := μ) ho (by have := hC.2.2.1; omega)
  rw [rent_obj hC.2.2.1] at he
  exact va_recv hK hw.1.P hC.1 he
theorem r_callV (C : Cx p s m args meth c D b cc nL own ret) (hw : Hw D b μ s.heap H locs) {o : Int} {K : Av} {st0 : List Value} {t N : Nat} {Cn : String} {T : u_T} {ty : Nat → FieldType} (hC : ClsOk t Cn T N ty) (ho : isK o t) (hM : Ctr l D b y bytes maxL ret' d' ((2, o) :: K) μ ov μ') (hm : Mi y bytes maxL ret' n) (hi : Cond.instanceMethod y ∈ gT) (hs : Cond.selects Cn y y ∈ gT) (hlk : Cond.methodLink own idx y ∈ gT) (hst : (vls b K).reverse ++ rfv b o :: rest = st0) (hn : K.length = n) (hz : ls.size = nL) (hR : d' + 1 ≤ R.frames ∧ 8 + (maxL + 11) + 41 * d' ≤ R.locals) (hr : (rest.map fun v => v.category).sum ≤ 8) (hd : decode cc pc = .ok (.invokevirtual idx, 3))
    (k : ∀ (H : Heap) (locs : List Loc), Hw D b μ' s.heap H locs → W p l e R s m args below meth c H locs 0 0 Q (F0 m (pc + 3) ls (ov.toList ++ rest))) : W p l e R s m args below meth c H locs 0 0 Q (F0 m pc ls st0) := by
  have hM' : Met l y (Cond.code y bytes maxL ret' :: gT) (rm d') (PreC D b (rfv b o :: vls b K) μ) (Post D b ov μ') 0 0 (Ab b NC) := hM
  rw [rfv_ref ho.1] at hM' hst
  have hK := C.2.2.2.2.2.1
  exact call_on hw (va_runV (As := vls b K) (rest := rest) (C := Cn) ⟨C.1, C.2.1, C.2.2.1, C.2.2.2.1, C.2.2.2.2.1⟩ hM' ⟨callB_row C hm hlk hR, C.2.2.2.2.1 _ hi, C.2.2.2.2.1 _ hs⟩ ⟨PreC.blind _ _ _ _, recvK hw hK hC ho, fun U hU hW => ⟨rfl, by rw [hU]; exact hw.1, va_K.moved hW.alike hK, C.2.2.2.2.2.2.2.2.moved hw.2 hU hW⟩⟩ rfl (by rw [List.length_map]; exact hn) hz hst.symm (lv_room hr) hd ⟨Nat.zero_le _, Nat.zero_le _⟩) k
theorem r_callS (C : Cx p s m args meth c D b cc nL own ret) (hw : Hw D b μ s.heap H locs) {K : Av} {st0 : List Value} (hM : Ctr l D b y bytes maxL ret' d' K μ ov μ') (hm : Mi y bytes maxL ret' n) (hi : Cond.static y ∈ gT) (hlk : Cond.methodLink own idx y ∈ gT) (hst : (vls b K).reverse ++ rest = st0) (hn : K.length = n) (hz : ls.size = nL) (hR : d' + 1 ≤ R.frames ∧ 8 + (maxL + 11) + 41 * d' ≤ R.locals) (hr : (rest.map fun v => v.category).sum ≤ 8) (hd : decode cc pc = .ok (.invokestatic idx, 3))
    (k : ∀ (H : Heap) (locs : List Loc), Hw D b μ' s.heap H locs → W p l e R s m args below meth c H locs 0 0 Q (F0 m (pc + 3) ls (ov.toList ++ rest))) : W p l e R s m args below meth c H locs 0 0 Q (F0 m pc ls st0) := by
  have hK := C.2.2.2.2.2.1
  exact call_on hw (va_runS (As := vls b K) (rest := rest) ⟨C.1, C.2.1, C.2.2.1, C.2.2.2.1, C.2.2.2.2.1⟩ hM ⟨callB_row C hm hlk hR, C.2.2.2.2.1 _ hi⟩ ⟨PreC.blind _ _ _ _, fun U hU hW => ⟨rfl, by rw [hU]; exact hw.1, va_K.moved hW.alike hK, C.2.2.2.2.2.2.2.2.moved hw.2 hU hW⟩⟩ rfl (by rw [List.length_map]; exact hn) hz hst.symm (lv_room hr) hd ⟨Nat.zero_le _, Nat.zero_le _⟩) k
theorem cat_len (rest : List Value) (h : rest.length ≤ 4) : (rest.map fun v => v.category).sum ≤ 8 := by
  have : ∀ r : List Value, (r.map fun v => v.category).sum ≤ 2 * r.length := by
    intro r
    induction r with
    | nil => simp
    | cons v r ih =>
      have := lv_cat v
      simp only [List.map_cons, List.sum_cons, List.length_cons]
      omega
  have := this rest
  omega
theorem cat_vls {Kr : Av} (h : vls b Kr = rest) (hr : lsz Kr ≤ 8) : (rest.map fun v => v.category).sum ≤ 8 := by
  subst h
  have : ∀ K : Av, ((vls b K).map fun v => v.category).sum = lsz K := by
    intro K
    induction K with
    | nil => rfl
    | cons q K ih =>
      show (lvv b q.1 q.2).category + ((vls b K).map fun v => v.category).sum = _
      rw [ih, lvv_cat]
      by_cases h : q.1 = 1
      · simp [h, lsz]
      · simp [h, lsz]
  rw [this]; exact hr
theorem r_callVv (C : Cx p s m args meth c D b cc nL own ret) (hw : Hw D b μ s.heap H locs) {o : Int} {K : Av} {st0 : List Value} {t N : Nat} {Cn : String} {T : u_T} {ty : Nat → FieldType} {v : Value} (hC : ClsOk t Cn T N ty) (ho : isK o t) (hM : Ctr l D b y bytes maxL ret' d' ((2, o) :: K) μ (some v) μ') (hm : Mi y bytes maxL ret' n) (hi : Cond.instanceMethod y ∈ gT) (hs : Cond.selects Cn y y ∈ gT) (hlk : Cond.methodLink own idx y ∈ gT) (hst : (vls b K).reverse ++ rfv b o :: rest = st0) (hn : K.length = n) (hz : ls.size = nL) (hR : d' + 1 ≤ R.frames ∧ 8 + (maxL + 11) + 41 * d' ≤ R.locals) {Kr : Av} (hKr : vls b Kr = rest) (hr : lsz Kr ≤ 8) (hd : decode cc pc = .ok (.invokevirtual idx, 3))
    (k : ∀ (H : Heap) (locs : List Loc), Hw D b μ' s.heap H locs → W p l e R s m args below meth c H locs 0 0 Q (F0 m (pc + 3) ls (v :: rest))) : W p l e R s m args below meth c H locs 0 0 Q (F0 m pc ls st0) := r_callV C hw hC ho hM hm hi hs hlk hst hn hz hR (cat_vls hKr hr) hd k
theorem r_callVn (C : Cx p s m args meth c D b cc nL own ret) (hw : Hw D b μ s.heap H locs) {o : Int} {K : Av} {st0 : List Value} {t N : Nat} {Cn : String} {T : u_T} {ty : Nat → FieldType} (hC : ClsOk t Cn T N ty) (ho : isK o t) (hM : Ctr l D b y bytes maxL ret' d' ((2, o) :: K) μ none μ') (hm : Mi y bytes maxL ret' n) (hi : Cond.instanceMethod y ∈ gT) (hs : Cond.selects Cn y y ∈ gT) (hlk : Cond.methodLink own idx y ∈ gT) (hst : (vls b K).reverse ++ rfv b o :: rest = st0) (hn : K.length = n) (hz : ls.size = nL) (hR : d' + 1 ≤ R.frames ∧ 8 + (maxL + 11) + 41 * d' ≤ R.locals) {Kr : Av} (hKr : vls b Kr = rest) (hr : lsz Kr ≤ 8) (hd : decode cc pc = .ok (.invokevirtual idx, 3))
    (k : ∀ (H : Heap) (locs : List Loc), Hw D b μ' s.heap H locs → W p l e R s m args below meth c H locs 0 0 Q (F0 m (pc + 3) ls (rest))) : W p l e R s m args below meth c H locs 0 0 Q (F0 m pc ls st0) := r_callV C hw hC ho hM hm hi hs hlk hst hn hz hR (cat_vls hKr hr) hd k
theorem r_callSv (C : Cx p s m args meth c D b cc nL own ret) (hw : Hw D b μ s.heap H locs) {K : Av} {st0 : List Value} {v : Value} (hM : Ctr l D b y bytes maxL ret' d' K μ (some v) μ') (hm : Mi y bytes maxL ret' n) (hi : Cond.static y ∈ gT) (hlk : Cond.methodLink own idx y ∈ gT) (hst : (vls b K).reverse ++ rest = st0) (hn : K.length = n) (hz : ls.size = nL) (hR : d' + 1 ≤ R.frames ∧ 8 + (maxL + 11) + 41 * d' ≤ R.locals) {Kr : Av} (hKr : vls b Kr = rest) (hr : lsz Kr ≤ 8) (hd : decode cc pc = .ok (.invokestatic idx, 3))
    (k : ∀ (H : Heap) (locs : List Loc), Hw D b μ' s.heap H locs → W p l e R s m args below meth c H locs 0 0 Q (F0 m (pc + 3) ls (v :: rest))) : W p l e R s m args below meth c H locs 0 0 Q (F0 m pc ls st0) := r_callS C hw hM hm hi hlk hst hn hz hR (cat_vls hKr hr) hd k
theorem r_callSn (C : Cx p s m args meth c D b cc nL own ret) (hw : Hw D b μ s.heap H locs) {K : Av} {st0 : List Value} (hM : Ctr l D b y bytes maxL ret' d' K μ none μ') (hm : Mi y bytes maxL ret' n) (hi : Cond.static y ∈ gT) (hlk : Cond.methodLink own idx y ∈ gT) (hst : (vls b K).reverse ++ rest = st0) (hn : K.length = n) (hz : ls.size = nL) (hR : d' + 1 ≤ R.frames ∧ 8 + (maxL + 11) + 41 * d' ≤ R.locals) {Kr : Av} (hKr : vls b Kr = rest) (hr : lsz Kr ≤ 8) (hd : decode cc pc = .ok (.invokestatic idx, 3))
    (k : ∀ (H : Heap) (locs : List Loc), Hw D b μ' s.heap H locs → W p l e R s m args below meth c H locs 0 0 Q (F0 m (pc + 3) ls (rest))) : W p l e R s m args below meth c H locs 0 0 Q (F0 m pc ls st0) := r_callS C hw hM hm hi hlk hst hn hz hR (cat_vls hKr hr) hd k
theorem r_iret (C : Cx p s m args meth c D b cc nL own (some .int)) (hw : Hw D b μ s.heap H locs) {v r : Int} (hf : some (v, μ) = some (r, μ')) (hd : decode cc pc = .ok (.ireturn, 1)) : W p l e R s m args below meth c H locs 0 0 (QM below args s D b (some (.int (jI r))) μ') (F0 m pc ls [.int (jI v)]) := by
  cases hf
  exact W.iret C.1 C.2.1 C.2.2.2.2.2.2.1 (fun t ht hW => ⟨rfl, by rw [ht]; exact hw.1, hw.2.F ht⟩) hw.2.2.2 hd C.2.2.2.2.2.2.2.1
theorem r_zret (C : Cx p s m args meth c D b cc nL own (some .boolean)) (hw : Hw D b μ s.heap H locs) {v r : Int} (hb : isB v) (hf : some (v, μ) = some (r, μ')) (hd : decode cc pc = .ok (.ireturn, 1)) : W p l e R s m args below meth c H locs 0 0 (QM below args s D b (some (.int (jI r))) μ') (F0 m pc ls [.int (jI v)]) := by
  cases hf
  exact W.zret (ty := .boolean) C.1 C.2.1 C.2.2.2.2.2.2.1 (isB_nar hb).1 (fun t ht hW => ⟨rfl, by rw [ht]; exact hw.1, hw.2.F ht⟩) hw.2.2.2 hd C.2.2.2.2.2.2.2.1
theorem r_lret (C : Cx p s m args meth c D b cc nL own (some .long)) (hw : Hw D b μ s.heap H locs) {v r : Int} (hf : some (v, μ) = some (r, μ')) (hd : decode cc pc = .ok (.lreturn, 1)) : W p l e R s m args below meth c H locs 0 0 (QM below args s D b (some (.long (jL r))) μ') (F0 m pc ls [.long (jL v)]) := by
  cases hf
  exact W.lret C.1 C.2.1 C.2.2.2.2.2.2.1 (fun t ht hW => ⟨rfl, by rw [ht]; exact hw.1, hw.2.F ht⟩) hw.2.2.2 hd C.2.2.2.2.2.2.2.1
theorem r_vret (C : Cx p s m args meth c D b cc nL own none) (hw : Hw D b μ s.heap H locs) {v r : Int} (hf : some (v, μ) = some (r, μ')) (hd : decode cc pc = .ok (.return_, 1)) : W p l e R s m args below meth c H locs 0 0 (QM below args s D b none μ') (F0 m pc ls []) := by
  cases hf
  exact W.vret C.1 C.2.1 C.2.2.2.2.2.2.1 (fun t ht hW => ⟨rfl, by rw [ht]; exact hw.1, hw.2.F ht⟩) hw.2.2.2 hd C.2.2.2.2.2.2.2.1
theorem r_aret {nm : String} (C : Cx p s m args meth c D b cc nL own (some (.object nm))) (hw : Hw D b μ s.heap H locs) {v r : Int} (hf : some (v, μ) = some (r, μ')) (hd : decode cc pc = .ok (.areturn, 1)) : W p l e R s m args below meth c H locs 0 0 (QM below args s D b (some (rfv b r)) μ') (F0 m pc ls [rfv b v]) := by
  cases hf
  exact W.aret (rt := .object nm) C.1 C.2.1 C.2.2.2.2.2.2.1 (Or.inl ⟨nm, rfl⟩) (va_rf_or _) (fun t ht hW => ⟨rfl, by rw [ht]; exact hw.1, hw.2.F ht⟩) hw.2.2.2 hd C.2.2.2.2.2.2.2.1
theorem top_i {cells slots : Nat} {x y : Int} (he : y = x) (k : W p l e R s m args below meth c H locs cells slots Q (F0 m pc ls (.int (jI y) :: rest))) : W p l e R s m args below meth c H locs cells slots Q (F0 m pc ls (.int (jI x) :: rest)) := by subst he; exact k
theorem top_l {cells slots : Nat} {x y : Int} (he : y = x) (k : W p l e R s m args below meth c H locs cells slots Q (F0 m pc ls (.long (jL y) :: rest))) : W p l e R s m args below meth c H locs cells slots Q (F0 m pc ls (.long (jL x) :: rest)) := by subst he; exact k
end CALL
theorem ite_t {c : Prop} [Decidable c] {α : Type} {A B : Option α} {x : α} (h : c) (hf : (if c then A else B) = some x) : A = some x := by rwa [if_pos h] at hf
theorem ite_f {c : Prop} [Decidable c] {α : Type} {A B : Option α} {x : α} (h : ¬ c) (hf : (if c then A else B) = some x) : B = some x := by rwa [if_neg h] at hf
theorem nm_some {α β : Type} {x : α} {k : α → Option β} {y : β} (h : nm x k = some y) : ∃ z, z = x ∧ k z = some y := ⟨x, rfl, h⟩
theorem ow_of {o : Int} {t t' f : Nat} (h : isK o t) (ht : t ≠ 999) (hall : ∀ k : Nat, k < NC → kdL.getD k 999 = t → kdL.getD (k + f) 999 = t') : isK (o + f) t' := by
  obtain ⟨h0, h1⟩ := id h
  have hl := h.lt ht
  unfold kd at h1
  rw [if_neg (by omega)] at h1
  refine ⟨by omega, ?_⟩
  unfold kd
  rw [if_neg (by omega), show (o + (f : Int)).toNat = o.toNat + f by omega]
  exact hall _ hl h1
theorem el_of {o i : Int} {t t' n st : Nat} (h : isK o t) (ht : t ≠ 999) (hi : 0 ≤ i ∧ i < n) (hall : ∀ k : Nat, k < NC → kdL.getD k 999 = t → ∀ j : Nat, j < n → kdL.getD (k + 1 + st * j) 999 = t') : isK (o + 1 + st * i) t' := by
  obtain ⟨h0, h1⟩ := id h
  have hl := h.lt ht
  unfold kd at h1
  rw [if_neg (by omega)] at h1
  have hp : 0 ≤ (st : Int) * i := Int.mul_nonneg (by omega) hi.1
  refine ⟨by omega, ?_⟩
  unfold kd
  have hz : (o + 1 + (st : Int) * i).toNat = o.toNat + 1 + st * i.toNat := by
    have : ((st * i.toNat : Nat) : Int) = (st : Int) * i := by rw [Int.natCast_mul, Int.toNat_of_nonneg hi.1]
    omega
  rw [if_neg (by omega), hz]
  exact hall _ hl h1 _ (by omega)
theorem look_nil (d z : Int) : Op.lookupswitch.offset [] d z = d := rfl
def FU : Nat := 10000

theorem look_ne {a o d z : Int} {r : List (Int × Int)} (h : ¬ z = a) : Op.lookupswitch.offset ((a, o) :: r) d z = Op.lookupswitch.offset r d z := by
  simp [Op.lookupswitch.offset, Ne.symm h, h]
theorem look_eq {a o d z : Int} {r : List (Int × Int)} (h : z = a) : Op.lookupswitch.offset ((a, o) :: r) d z = o := by
  simp [Op.lookupswitch.offset, h]
/-! rows of ints of any length; System.arraycopy of nine -/
abbrev isA (o : Int) (g : Nat) : Prop := 0 ≤ o ∧ kd o / 10000 = g
def aln (o : Int) : Int := ((kd o % 10000 : Nat) : Int)
theorem isA_k {o : Int} (h : isA o 1) : isK o (10000 + kd o % 10000) := ⟨h.1, by have := h.2; omega⟩
def cpm (μ : Mem) (s d n : Int) : Mem := fun c i => if c = d ∧ 0 ≤ i ∧ i < n then μ s i else μ c i
section EXTRA
variable {p : Program} {l : Launch} {e : Env} {R : Room} {s : State} {m : MethodId} {args : Array Value} {below : List Frame} {meth : Method} {c : Code} {H : Heap} {locs : List Loc} {cells slots : Nat} {Q : State → Prop}
variable {D : Ds} {cc : ByteArray} {nL : Nat} {own : String} {ret : Option FieldType} {pc : Nat} {ls : Array Slot} {rest : List Value} {b : Nat} {μ : Mem} {H0 : Heap}
theorem r_ialdA (C : Cx p s m args meth c D b cc nL own ret) (hw : Hw D b μ H0 H locs) {o i : Int} (h : isA o 1 ∧ 0 ≤ nrm i ∧ nrm i < aln o) (hd : decode cc pc = .ok (.iaload, 1)) (k : W p l e R s m args below meth c H locs cells slots Q (F0 m (pc + 1) ls (.int (jI (μ o (nrm i))) :: rest))) : W p l e R s m args below meth c H locs cells slots Q (F0 m pc ls (.int (jI i) :: rfv b o :: rest)) := r_iald C hw (isA_k h.1) rfl h.2 (Nat.mod_lt _ (by decide)) hd k
theorem r_iastA (C : Cx p s m args meth c D b cc nL own ret) (hw : Hw D b μ H0 H locs) {o i v : Int} (h : isA o 1 ∧ 0 ≤ nrm i ∧ nrm i < aln o) (hd : decode cc pc = .ok (.iastore, 1)) (k : ∀ (H : Heap) (locs : List Loc), Hw D b (ms μ o (nrm i) v) H0 H locs → W p l e R s m args below meth c H locs cells slots Q (F0 m (pc + 1) ls rest)) : W p l e R s m args below meth c H locs cells slots Q (F0 m pc ls (.int (jI v) :: .int (jI i) :: rfv b o :: rest)) := r_iast C hw (isA_k h.1) rfl h.2 (Nat.mod_lt _ (by decide)) hd k
theorem r_alenA (C : Cx p s m args meth c D b cc nL own ret) (hw : Hw D b μ H0 H locs) {o : Int} (h : isA o 1) (hd : decode cc pc = .ok (.arraylength, 1)) (k : W p l e R s m args below meth c H locs cells slots Q (F0 m (pc + 1) ls (.int (jI (aln o)) :: rest))) : W p l e R s m args below meth c H locs cells slots Q (F0 m pc ls (rfv b o :: rest)) := r_alen1 C hw (isA_k h) (Nat.mod_lt _ (by decide)) rfl hd k
theorem cpm_out {s9 d9 n9 k i : Int} (h : ¬ (k = d9 ∧ 0 ≤ i ∧ i < n9)) : cpm μ s9 d9 n9 k i = μ k i := by unfold cpm; rw [if_neg h]
theorem mg_cpm {s9 d9 n9 : Int} (hd : isK d9 10009) (k i : Int) : mg (cpm μ s9 d9 n9) k i = if k = d9 ∧ 0 ≤ i ∧ i < n9 then μ s9 i else mg μ k i := by
  by_cases e : k = d9
  · subst e
    rw [mg_arr hd (by decide) (by decide), mg_arr hd (by decide) (by decide)]; rfl
  · rw [if_neg (fun q => e q.1)]
    unfold mg
    rw [cpm_out (fun q => e q.1)]
theorem r_copy9 (C : Cx p s m args meth c D b cc nL own ret) (hw : Hw D b μ H0 H locs) {s9 d9 : Int} (hs : isK s9 10009) (hk : isK d9 10009) {idx : Nat} (hlk : Cond.methodLink own idx arraycopyName ∈ gT) (hz : ls.size = nL) (hfr : 1 ≤ R.frames) (hlo : nativeFrameWords "java/lang/System" "arraycopy" 5 + 19 ≤ R.locals) (hrl : rest.length ≤ 4) (hd : decode cc pc = .ok (.invokestatic idx, 3)) (hnat : Cond.native arraycopyName ∈ gT) (hstat : Cond.static arraycopyName ∈ gT) (hini : Cond.initialized "java/lang/System" ∈ gT)
    (k : ∀ (H : Heap) (locs : List Loc), Hw D b (cpm μ s9 d9 9) H0 H locs → W p l e R s m args below meth c H locs cells slots Q (F0 m (pc + 3) ls rest)) : W p l e R s m args below meth c H locs cells slots Q (F0 m pc ls (.int (jI 9) :: .int (jI 0) :: rfv b d9 :: .int (jI 0) :: rfv b s9 :: rest)) := by
  rw [rfv_ref hs.1, rfv_ref hk.1]
  have ht := C.2.2.2.2.1
  have hcat := cat_len rest hrl
  refine va_copyi C.1 C.2.1 (by rw [hz]; exact C.2.2.1) C.2.2.2.1 (ht _ hlk) (ht _ hnat) (ht _ hstat) (ht _ hini) C.2.2.2.2.2.1 hw.1.P (wl_D (fun _ h => h)) hw.2 s9.toNat d9.toNat 0 0 (ty := .int) (wl_i (g := 1) (n := 9) (by decide) (by decide) hs) (wl_i (g := 1) (n := 9) (by decide) (by decide) hk) (tysD_at D 0 (by decide)) (tysD_at D 0 (by decide)) rfl (by decide) (by decide) (by decide) (by decide) (by decide) (fun i _ => rfl) hfr (by omega) hd (fun H1 locs1 hP hD hS => k H1 locs1 ⟨?_, hS⟩)
  refine Gw.of (ν := mg μ) (hk.lt (by decide)) hP ?_ ?_
  · rw [toNat_cast hk.1, hk.2, rent_i (by decide) (by decide)]
    congr 5
    funext j
    show va_cpy (fun j : Nat => jI (μ s9 j)) (fun j : Nat => jI (μ d9 j)) 0 0 9 j = jI (mg (cpm μ s9 d9 9) d9 j)
    rw [mg_cpm hk, mg_arr hk (by decide) (by decide)]
    unfold va_cpy
    by_cases hj : j < 9
    · rw [if_pos ⟨Nat.zero_le _, by omega⟩, if_pos ⟨rfl, by omega, by omega⟩, Nat.zero_add, Nat.sub_zero]
    · rw [if_neg (by omega), if_neg (fun q => hj (by omega))]
  · intro j hj
    funext z9
    rw [mg_cpm hk, if_neg (fun q => hj (by omega))]
end EXTRA
