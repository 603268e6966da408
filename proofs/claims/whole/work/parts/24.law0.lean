/-! THE CLAIM OUT OF ONE WALK OF THE LAW'S BODY. Your part is whole_start (and what it stands on); all else here is the same for every law, but numbers. -/
def R_law : String := "RutWaysLaw"
def lw_P (b : Addr) (xs : List Int32) (args : Array Value) (s : State) : Prop := args = #[.ref b] ∧ s.IntsAt b xs ∧ xs.length ≤ 3072 ∧ (Jvm.Cond.and given_1 narrow_1).before args s = true
def lw_Q (_ : Array Value) (s : State) (o : Outcome) (t : State) : Prop := o = .returned (some (.int 1)) ∧ Framed s o t [] 600000 7302250
def lw_Z (below : List Frame) (a : Array Value) (s : State) : State → Prop := fun t => ∃ o, t.status = .running ∧ Ended t below o ∧ lw_Q a s o t
/-- the law's own end, with 1 on the stack, nothing written that was there before, its room as the claim has it -/
theorem lw_ret {p : Program} {l : Launch} {e : Env} {s : State} {m : MethodId} {below : List Frame} {meth : Method} {c : Code} {b : Nat} (hx : p.tables.exec = Jvm.exec) (hb : c.code = code) (hr : meth.sig.returnType = ret) (hlocks : meth.locks = false) {pc : Nat} {H : Heap} {ls : Array Slot} (hdg : decode code pc = .ok (.ireturn, 1)) : W p l e room_1 s m #[Value.ref b] below meth c H [] 600000 7302250 (lw_Z below #[Value.ref b] s) (F0 m pc ls [.int 1]) := by
  intro T hT X
  obtain ⟨fs, hret, hrun, hended, hW, hframe⟩ := X.leave (v := some (.int 1)) (hlocks := hlocks) (fun h => by rw [hr] at h; cases h)
  have hmeth' : T.vm.method? m = some meth := X.method'
  refine ⟨T.setFrames fs, ?_, .returned (some (.int 1)), hrun, hended, rfl, ⟨_, rfl⟩, hW, hframe⟩
  jvm_step X.here [X.here.top, hx, hb, hdg, hmeth', hr, ret, narrow_b1]
  (try refine ⟨rfl, ?_⟩); (try refine ⟨rfl, ?_⟩)
  first | (intro acts; rw [hret _ acts rfl rfl rfl]) | rw [hret _ _ rfl rfl rfl]
  exact Steps.refl _
/-- what holds at the law's entry: the machine, the code, the tables' words (any of lw_tbl by 'hts w (by decide +kernel)'), the script of L ints xs at the cell b, what the Statement gives of the start (any of its parts by flat_of_before) -/
def lw_At (p : Program) (s : State) (m : MethodId) (meth : Method) (c : Code) (b L : Nat) (xs : Nat → Int32) : Prop :=
  p.tables.exec = Jvm.exec ∧ c.code = code ∧ meth.sig.returnType = ret ∧ c.maxLocals = 4 ∧ s.vm.findClass R_law = some m.cls ∧ (∀ w ∈ lw_tbl, w.before #[Value.ref b] s = true) ∧ va_X b L xs s s.heap ∧ b < s.heap.size ∧ meth.locks = false ∧ (Jvm.Cond.and given_1 narrow_1).before #[Value.ref b] s = true
def tmS (i : Nat) : Term := ([.string "RutWays$Tokens" 75, .string "RutWays$Tokens" 49, .string "RutWaysModel" 80] : List Term).getD i (.string "RutWays$Tokens" 75)
abbrev flS : List Cond := flatC (Jvm.Cond.and given_1 narrow_1)
theorem fl_ex : ∀ i, i < 3 → Cond.exactly (tmS i) "java/lang/String" ∈ flS := by decide +kernel
theorem fl_co : ∀ i, i < 3 → Cond.eq (.field (tmS i) "java/lang/String" "coder" "B") (.int 0) ∈ flS := by decide +kernel
theorem fl_ar : ∀ i, i < 3 → Cond.arrayOf (.field (tmS i) "java/lang/String" "value" "[B") .byte ∈ flS := by decide +kernel
theorem fl_le : ∀ i, i < 3 → Cond.eq (.length (.field (tmS i) "java/lang/String" "value" "[B")) (.int (Int32.ofNat (lenS.getD i 0))) ∈ flS := by decide +kernel
def elS (i j : Nat) : Cond := Cond.eq (.elem (.field (tmS i) "java/lang/String" "value" "[B") (.int (Int32.ofNat j))) (.int ((bytS.getD i []).getD j 0))
theorem fl_el0 : (flS.drop 52).take 107 = (List.range 107).map (elS 0) := by decide +kernel
theorem fl_el1 : (flS.drop 163).take 12 = (List.range 12).map (elS 1) := by decide +kernel
theorem fl_el2 : (flS.drop 180).take 108 = (List.range 108).map (elS 2) := by decide +kernel
theorem fl_elM {i p q : Nat} (h : (flS.drop p).take q = (List.range q).map (elS i)) {j : Nat} (hj : j < q) : elS i j ∈ flS := List.mem_of_mem_drop (List.mem_of_mem_take (by rw [h]; exact List.mem_map.mpr ⟨j, List.mem_range.mpr hj, rfl⟩))
theorem fl_l0 : lenS.getD 0 0 = 107 ∧ lenS.getD 1 0 = 12 ∧ lenS.getD 2 0 = 108 := by decide +kernel
theorem fl_el : ∀ i, i < 3 → ∀ j, j < lenS.getD i 0 → Cond.eq (.elem (.field (tmS i) "java/lang/String" "value" "[B") (.int (Int32.ofNat j))) (.int ((bytS.getD i []).getD j 0)) ∈ flS := by
  intro i hi j hj
  obtain ⟨h0, h1, h2⟩ := fl_l0
  rcases (show i = 0 ∨ i = 1 ∨ i = 2 by omega) with rfl | rfl | rfl
  · exact fl_elM fl_el0 (by omega)
  · exact fl_elM fl_el1 (by omega)
  · exact fl_elM fl_el2 (by omega)
theorem fl_ne : ∀ i, i < 3 → ∀ j, j < 3 → i ≠ j → (Cond.not (Cond.eq (tmS i) (tmS j)) ∈ flS ∨ Cond.not (Cond.eq (tmS j) (tmS i)) ∈ flS) := by decide +kernel
theorem fl_ln : ∀ i, i < 3 → lenS.getD i 0 < 2 ^ 31 := by decide +kernel
theorem fl_same : Cond.eq (.string "RutWays$Tokens" 49) (.string "RutWaysModel" 118) ∈ flS := by decide +kernel
theorem fl_cs : Cond.eq (.static "java/lang/String" "COMPACT_STRINGS" "Z") (.int 1) ∈ flS := by decide +kernel
theorem fl_sf : Cond.isRef (.static "jdk/internal/util/Preconditions" "SIOOBE_FORMATTER" "Ljava/util/function/BiFunction;") ∈ flS := by decide +kernel
theorem nest_in : ∀ q ∈ nestL, Cond.methodLinkNest q.1 q.2.1 q.2.2.1 q.2.2.2 ∈ lw_tbl := List.forall_mem_cons.mpr ⟨inT1 (List.mem_of_getElem? (i := 33) rfl), List.forall_mem_cons.mpr ⟨inT1 (List.mem_of_getElem? (i := 39) rfl), List.forall_mem_cons.mpr ⟨inT1 (List.mem_of_getElem? (i := 101) rfl), List.forall_mem_cons.mpr ⟨inT2 (List.mem_of_getElem? (i := 38) rfl), List.forall_mem_cons.mpr ⟨inT2 (List.mem_of_getElem? (i := 60) rfl), List.forall_mem_cons.mpr ⟨inT2 (List.mem_of_getElem? (i := 73) rfl), List.forall_mem_cons.mpr ⟨inT2 (List.mem_of_getElem? (i := 102) rfl), List.forall_mem_cons.mpr ⟨inT2 (List.mem_of_getElem? (i := 112) rfl), fun _ h => absurd h List.not_mem_nil⟩⟩⟩⟩⟩⟩⟩⟩
set_option maxHeartbeats 4000000 in
set_option maxRecDepth 20000 in
theorem law_ctx {p : Program} {s : State} {m : MethodId} {meth : Method} {c : Code} {b L : Nat} {xs : Nat → Int32} (C0 : lw_At p s m meth c b L xs) : ∃ D : Ds, Cx p s m #[Value.ref b] meth c D s.heap.size code 4 R_law ret ∧ StrG D s.heap.size s ∧ AOs s := by
  obtain ⟨hx, hb, hr, hml, hown, hts, hX, hbl, hlocks, hgv⟩ := C0
  have htg : ∀ w ∈ gT, w.before #[Value.ref b] s = true := fun w h => hts w (gT_good w h).1
  have hs : ∀ w ∈ flS, w.before #[Value.ref b] s = true := flat_of_before _ hgv
  obtain ⟨c0, i0, hK0⟩ := u_known (C := RX0) (T := TX0) (N := 6) (n := 6) htg ok0.2.2.2.1 (htg _ kn_0)
  obtain ⟨c1, i1, hK1⟩ := u_known (C := RX1) (T := TX1) (N := 1) (n := 1) htg ok1.2.2.2.1 (htg _ kn_1)
  obtain ⟨c2, i2, hK2⟩ := u_known (C := RX2) (T := TX2) (N := 3) (n := 3) htg ok2.2.2.2.1 (htg _ kn_2)
  obtain ⟨c3, i3, hK3⟩ := u_known (C := RX3) (T := TX3) (N := 15) (n := 15) htg ok3.2.2.2.1 (htg _ kn_3)
  obtain ⟨c4, i4, hK4⟩ := u_known (C := RX4) (T := TX4) (N := 7) (n := 7) htg ok4.2.2.2.1 (htg _ kn_4)
  obtain ⟨c5, i5, hK5⟩ := u_known (C := RX5) (T := TX5) (N := 3) (n := 3) htg ok5.2.2.2.1 (htg _ kn_5)
  obtain ⟨c6, i6, hK6⟩ := u_known (C := RX6) (T := TX6) (N := 2) (n := 2) htg ok6.2.2.2.1 (htg _ kn_6)
  obtain ⟨c7, i7, hK7⟩ := u_known (C := RX7) (T := TX7) (N := 6) (n := 6) htg ok7.2.2.2.1 (htg _ kn_7)
  obtain ⟨c8, i8, hK8⟩ := u_known (C := RX8) (T := TX8) (N := 7) (n := 7) htg ok8.2.2.2.1 (htg _ kn_8)
  obtain ⟨c9, i9, hK9⟩ := u_known (C := RX9) (T := TX9) (N := 8) (n := 8) htg ok9.2.2.2.1 (htg _ kn_9)
  obtain ⟨c10, i10, hK10⟩ := u_known (C := RX10) (T := TX10) (N := 4) (n := 4) htg ok10.2.2.2.1 (htg _ kn_10)
  obtain ⟨c11, i11, hK11⟩ := u_known (C := RX11) (T := TX11) (N := 16) (n := 16) htg ok11.2.2.2.1 (htg _ kn_11)
  obtain ⟨c12, i12, hK12⟩ := u_known (C := RX12) (T := TX12) (N := 32) (n := 32) htg ok12.2.2.2.1 (htg _ kn_12)
  obtain ⟨dC, dI, hKc⟩ : ∃ (dC : Nat → ClassId) (dI : Nat → Nat → Nat), ∀ (k : Nat) (q : vw_C), vw[k]? = some q → u_Kn s q.1 q.2.1 q.2.2 (dC k) (dI k) := by
    refine ⟨fun k => ([c0, c1, c2, c3, c4, c5, c6, c7, c8, c9, c10, c11, c12] : List ClassId).getD k c0, fun k => ([i0, i1, i2, i3, i4, i5, i6, i7, i8, i9, i10, i11, i12] : List (Nat → Nat)).getD k i0, ?_⟩
    intro k q hq
    match k, hq with
    | 0, hq => cases hq; exact hK0
    | 1, hq => cases hq; exact hK1
    | 2, hq => cases hq; exact hK2
    | 3, hq => cases hq; exact hK3
    | 4, hq => cases hq; exact hK4
    | 5, hq => cases hq; exact hK5
    | 6, hq => cases hq; exact hK6
    | 7, hq => cases hq; exact hK7
    | 8, hq => cases hq; exact hK8
    | 9, hq => cases hq; exact hK9
    | 10, hq => cases hq; exact hK10
    | 11, hq => cases hq; exact hK11
    | 12, hq => cases hq; exact hK12
    | k + 13, hq => simp [vw] at hq
  obtain ⟨a0, k0, q0, e01, e02, e03⟩ := Cond.arrayClass_spec (htg _ ka_int)
  obtain ⟨a1, k1, q1, e11, e12, e13⟩ := Cond.arrayClass_spec (htg _ ka_byte)
  obtain ⟨a2, k2, q2, e21, e22, e23⟩ := Cond.arrayClass_spec (htg _ ka_boolean)
  obtain ⟨a3, k3, q3, e31, e32, e33⟩ := Cond.arrayClass_spec (htg _ ka_long)
  have hA4 : va_AO "RutWays$Land" s := va_AO.of (hts _ (inT1 (List.mem_of_getElem? (i := 93) rfl)))
  have hA5 : va_AO "RutWays$Course" s := va_AO.of (hts _ (inT2 (List.mem_of_getElem? (i := 23) rfl)))
  have hA6 : va_AO "RutWays$Tray" s := va_AO.of (hts _ (inT2 (List.mem_of_getElem? (i := 36) rfl)))
  obtain ⟨q4, a4, k4, e41, -, e43, e44, e45⟩ := Cond.arrayOver_spec hA4
  obtain ⟨q5, a5, k5, e51, -, e53, e54, e55⟩ := Cond.arrayOver_spec hA5
  obtain ⟨q6, a6, k6, e61, -, e63, e64, e65⟩ := Cond.arrayOver_spec hA6
  have hA : ∀ a : Nat, a < s.heap.size → ¬ Ag s.heap.size a := fun a h q => absurd (show s.heap.size ≤ a from q) (Nat.not_le.mpr h)
  obtain ⟨adK, adV, hS, hev⟩ := vk_Sof (args := #[Value.ref b]) (s := s) (N := 3) (tm := tmS) (len := lenS) (byt := bytS) (A := Ag s.heap.size) fl_ln (fun i h => hs _ (fl_ex i h)) (fun i h => hs _ (fl_co i h)) (fun i h => hs _ (fl_ar i h)) (fun i h => hs _ (fl_le i h)) (fun i h j hj => hs _ (fl_el i h j hj)) (fun i j hi hj hn => (fl_ne i hi j hj hn).elim (fun q => Or.inl (hs _ q)) (fun q => Or.inr (hs _ q))) hA
  have hG : StrG ((dC, dI), fun k => ([a0, a1, a2, a3, a4, a5, a6] : List ClassId).getD k a0, adK, adV) s.heap.size s := by
    refine ⟨hS, vk_R.of (hts _ (inT2 (List.mem_of_getElem? (i := 225) rfl))) (hev 0 (by decide)), vk_R.of (hts _ (inT3 (List.mem_of_getElem? (i := 52) rfl))) (hev 1 (by decide)), vk_R.of (hts _ (inT6 (List.mem_of_getElem? (i := 152) rfl))) (hev 2 (by decide)), vk_R.of (hts _ (inT6 (List.mem_of_getElem? (i := 158) rfl))) ?_, va_Zof (hts _ (inT2 (List.mem_of_getElem? (i := 235) rfl))) (hts _ (inT1 (List.mem_of_getElem? (i := 16) rfl))) (va_eqt (hs _ fl_cs)) hA, va_Zqof (hts _ (inT3 (List.mem_of_getElem? (i := 11) rfl))) (hts _ (inT1 (List.mem_of_getElem? (i := 18) rfl))) (hs _ fl_sf) hA, fun q hq => va_Nw.of rfl (hts _ (nest_in q hq))⟩
    obtain ⟨w, h1, h2⟩ := Cond.eq_one (hs _ fl_same)
    have h3 := hev 1 (by decide)
    rw [show tmS 1 = Term.string "RutWays$Tokens" 49 from rfl] at h3
    cases h1.symm.trans h3
    exact h2
  refine ⟨_, ⟨hx, hb, hml, hown, htg, ⟨hKc, fun k q hk => ?_⟩, hr, hlocks, hG.ok⟩, hG, hA4, hA5, hA6⟩
  match k, hk with
  | 0, hk => cases hk; exact ⟨fun n z => ⟨fun k h => (by cases h), k0, e02, q0, e03⟩, e01⟩
  | 1, hk => cases hk; exact ⟨fun n z => ⟨fun k h => (by cases h), k1, e12, q1, e13⟩, e11⟩
  | 2, hk => cases hk; exact ⟨fun n z => ⟨fun k h => (by cases h), k2, e22, q2, e23⟩, e21⟩
  | 3, hk => cases hk; exact ⟨fun n z => ⟨fun k h => (by cases h), k3, e32, q3, e33⟩, e31⟩
  | 4, hk => cases hk; exact ⟨fun n z => ⟨fun k h => (by cases h), k4, e43, q4, e44⟩, k4, q4, e43, e44, e41, e45⟩
  | 5, hk => cases hk; exact ⟨fun n z => ⟨fun k h => (by cases h), k5, e53, q5, e54⟩, k5, q5, e53, e54, e51, e55⟩
  | 6, hk => cases hk; exact ⟨fun n z => ⟨fun k h => (by cases h), k6, e63, q6, e64⟩, k6, q6, e63, e64, e61, e65⟩
  | k + 7, hk => simp [tysD] at hk
