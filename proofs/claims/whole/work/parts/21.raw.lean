/-! the makers: cells come one behind the other; all numbers are known -/
def Ag (b : Nat) : Nat → Prop := fun q => b ≤ q
def rdf (k j : Int) : Int := if kd k < 100 then (if ftg (kd k) j.toNat = -1 then 0 else -1) else if kd k < 50000 then 0 else -1
def Rw (D : Ds) (b n : Nat) (ν : Mem) (H0 H : Heap) (locs : List Loc) : Prop := H.size = b + n ∧ Gw D b n kd ν H ∧ va_S (Ag b) H0 H locs ∧ ∀ k : Int, (n : Int) ≤ k → ∀ j, ν k j = rdf k j
def CxI (p : Program) (s : State) (m : MethodId) (args : Array Value) (meth : Method) (c : Code) (D : Ds) (b : Nat) (cc : ByteArray) (nL : Nat) (own : String) : Prop := Cx p s m args meth c D b cc nL own none ∧ meth.name = "<init>" ∧ va_AO "RutWays$Land" s ∧ va_AO "RutWays$Course" s ∧ va_AO "RutWays$Tray" s
theorem rent_ext {D : Ds} {b t : Nat} {r r' : Int → Int} (h : ∀ j : Nat, r (j : Int) = r' (j : Int)) : rent D b t r = rent D b t r' := by
  unfold rent rfs
  simp only [h]
theorem Gw.more {D : Ds} {b n : Nat} {ν : Mem} {H H1 : Heap} (h : Gw D b n kd ν H) (hz : H.size = b + n) (ho : ∀ q, q < H.size → H1[q]? = H[q]?) (hn : va_at D.1 vw (b + n, rent D b (kd n) (ν n)) H1) : Gw D b (n + 1) kd ν H1 := by
  intro k hk
  by_cases e : k = n
  · subst e; exact hn
  · exact (h k (by omega)).kept (ho _ (by dsimp only; omega))
section RAW
variable {p : Program} {l : Launch} {e : Env} {R : Room} {s : State} {m : MethodId} {args : Array Value} {below : List Frame} {meth : Method} {c : Code} {H : Heap} {locs : List Loc} {cells slots : Nat} {Q : State → Prop}
variable {D : Ds} {cc : ByteArray} {nL : Nat} {own : String} {pc : Nat} {ls : Array Slot} {rest : List Value} {b n : Nat} {ν : Mem}
theorem wl_o {o : Int} {t : Nat} (ho : isK o t) (hn : o < n) : (wl D b n kd ν)[o.toNat]? = some (b + o.toNat, rent D b t (ν o)) := by
  rw [wl_at (by have := ho.1; omega), toNat_cast ho.1, ho.2]
theorem rr_new (C : CxI p s m args meth c D b cc nL own) (h : Rw D b n ν s.heap H locs) {t N idx : Nat} {Cn : String} {T : u_T} {ty : Nat → FieldType} (hC : ClsOk t Cn T N ty) (hk : kd (n : Int) = t) (hdf : ∀ j, j < N → defaultValue (ty j) = if ftg t j = -1 then .int (jI 0) else .null) (hcl : Cond.classLink own idx Cn ∈ gT) (hins : Cond.instantiable Cn N ∈ gT) (hini : Cond.initialized Cn ∈ gT) (hcells : cells + 1 ≤ R.cells) (hslots : slots + N ≤ R.slots) (hd : decode cc pc = .ok (.new idx, 3)) {z : Int} (hz : (n : Int) = z)
    (k : ∀ H : Heap, Rw D b (n + 1) ν s.heap H locs → W p l e R s m args below meth c H locs (cells + 1) (slots + N) Q (F0 m (pc + 3) ls (rfv b z :: rest))) : W p l e R s m args below meth c H locs cells slots Q (F0 m pc ls rest) := by
  subst hz
  obtain ⟨hc, hN, ht, hin, hty, hnm⟩ := hC
  obtain ⟨hsz, hG, hS, hF⟩ := h
  have hts := C.1.2.2.2.2.1
  have hKn := C.1.2.2.2.2.2.1.1 t _ hc
  refine W.newcK C.1.1 C.1.2.1 C.1.2.2.2.1 (hts _ hcl) (hts _ hins) (hts _ hini) rfl hd hcells hslots hKn.2.1 hsz fun H1 kC hkC e1 z1 o1 => ?_
  rw [← hsz] at o1
  have kk := k H1 ⟨by omega, hG.more hsz o1 ?_, ⟨by have := hS.1; omega, fun x h1 h2 => (o1 x (by have := hS.1; omega)).trans (hS.2.1 x h1 h2), hS.2.2⟩, fun q hq j => hF q (by omega) j⟩
  · rw [rfv_ref (by omega)] at kk; exact kk
  · rw [hk, rent_obj ht]
    refine ⟨_, hc, (u_born ty hts hin hKn hkC e1 hty).to (fun j hj => ?_)⟩
    unfold vp_V
    rw [List.getD_eq_getElem?_getD, rfs_at (by rw [hN]; exact hj), hdf j hj, hF n (Int.le_refl _) j]
    unfold rdf
    rw [hk, if_pos ht]
    show _ = rval b (ftg t j) (if ftg t (Int.toNat (j : Int)) = -1 then 0 else -1)
    rw [Int.toNat_natCast]
    unfold rval
    by_cases e9 : ftg t j = -1
    · rw [if_pos e9, if_pos e9, if_pos e9]
    · rw [if_neg e9, if_neg e9, if_neg e9]; rfl
theorem rr_newa (C : CxI p s m args meth c D b cc nL own) (h : Rw D b n ν s.heap H locs) {g N : Nat} {at9 : ArrayType} {ty : FieldType} {x : Int} (hty : newarray.typeOf at9 = ty) (hg : g < 4) (hty2 : ([.int, .byte, .boolean, .long] : List FieldType).getD g .int = ty) (hx : jI x = Int32.ofNat N) (hNs : N < 10000) (hk : kd (n : Int) = 10000 * (g + 1) + N) (har : Cond.arrayClass ty ∈ gT) (hcells : cells + 1 ≤ R.cells) (hslots : slots + N ≤ R.slots) (hd : decode cc pc = .ok (.newarray at9, 2)) {z : Int} (hz : (n : Int) = z)
    (k : ∀ H : Heap, Rw D b (n + 1) ν s.heap H locs → W p l e R s m args below meth c H locs (cells + 1) (slots + N) Q (F0 m (pc + 2) ls (rfv b z :: rest))) : W p l e R s m args below meth c H locs cells slots Q (F0 m pc ls (.int (jI x) :: rest)) := by
  subst hz
  obtain ⟨hsz, hG, hS, hF⟩ := h
  have hts := C.1.2.2.2.2.1
  have hcl : (jI x).toNatClampNeg = N := by rw [hx]; exact nI_clamp (by omega)
  have hb9 : N * componentBytes (newarray.typeOf at9) ≤ 536870912 := by
    have : componentBytes (newarray.typeOf at9) ≤ 8 := by cases at9 <;> decide
    calc N * componentBytes (newarray.typeOf at9) ≤ N * 8 := Nat.mul_le_mul_left _ this
      _ ≤ 536870912 := by omega
  refine va_newaK C.1.1 C.1.2.1 (hts _ (by rw [hty]; exact har)) rfl hd rfl (by rw [hx]; exact nI_pos (by omega)) hcl hb9 hcells hslots hsz fun H1 cA e1 z1 o1 hAr hNm => ?_
  rw [← hsz] at o1
  have kk := k H1 ⟨by omega, hG.more hsz o1 ?_, ⟨by have := hS.1; omega, fun x h1 h2 => (o1 x (by have := hS.1; omega)).trans (hS.2.1 x h1 h2), hS.2.2⟩, fun q hq j => hF q (by omega) j⟩
  · rw [rfv_ref (by omega)] at kk; exact kk
  · have hRA := (C.1.2.2.2.2.2.1.2 g _ (tysD_at D g hg)).2
    rw [hty2] at hRA
    have hcA : cA = D.2.1 g := by
      rw [hty] at hNm
      have : s.vm.findClass ("[" ++ ty.toString) = some (D.2.1 g) := by
        rcases (show g = 0 ∨ g = 1 ∨ g = 2 ∨ g = 3 by omega) with rfl | rfl | rfl | rfl <;> (subst hty2; exact hRA)
      exact Option.some.inj (hNm.symm.trans this)
    subst hcA
    have hz : ∀ j : Nat, ν n j = 0 := fun j => by
      rw [hF n (Int.le_refl _) j]; unfold rdf; rw [hk, if_neg (by omega), if_pos (by omega)]
    rw [hk]
    by_cases hg3 : g = 3
    · subst hg3
      rw [rent_l (by omega) (by omega), show (10000 * (3 + 1) + N) % 10000 = N by omega]
      show H1[b + n]? = some (vp_cell _ _)
      rw [e1, vp_cell_l, hty]
      congr 2
      funext j; rw [hz j]; subst hty2; rfl
    · rw [rent_i (by omega) (by omega), show (10000 * (g + 1) + N) % 10000 = N by omega, show (10000 * (g + 1) + N) / 10000 - 1 = g by omega]
      show H1[b + n]? = some (vp_cell _ _)
      rw [e1, vp_cell_i, hty]
      congr 2
      funext j; rw [hz j]
      rcases (show g = 0 ∨ g = 1 ∨ g = 2 by omega) with rfl | rfl | rfl <;> (subst hty2; rfl)
theorem rr_anew (C : CxI p s m args meth c D b cc nL own) (h : Rw D b n ν s.heap H locs) {g N idx : Nat} {Cn : String} {x : Int} (hg : 4 ≤ g ∧ g < 7) (hty2 : (tysD D)[g]? = some (D.2.1 g, .object Cn)) (hx : jI x = Int32.ofNat N) (hNs : N < 10000) (hk : kd (n : Int) = 10000 * (g + 1) + N) (hcl : Cond.classLink own idx Cn ∈ gT) (hao : va_AO Cn s) (hcells : cells + 1 ≤ R.cells) (hslots : slots + N ≤ R.slots) (hd : decode cc pc = .ok (.anewarray idx, 3)) {z : Int} (hz : (n : Int) = z)
    (k : ∀ H : Heap, Rw D b (n + 1) ν s.heap H locs → W p l e R s m args below meth c H locs (cells + 1) (slots + N) Q (F0 m (pc + 3) ls (rfv b z :: rest))) : W p l e R s m args below meth c H locs cells slots Q (F0 m pc ls (.int (jI x) :: rest)) := by
  subst hz
  obtain ⟨hsz, hG, hS, hF⟩ := h
  have hts := C.1.2.2.2.2.1
  have hcn : (jI x).toNatClampNeg = N := by rw [hx]; exact nI_clamp (by omega)
  refine W.anew C.1.1 C.1.2.1 C.1.2.2.2.1 (hts _ hcl) (va_AO.use hao) rfl hd rfl (by rw [hx]; exact nI_pos (by omega)) (by rw [hcn]; omega) hcells (by rw [hcn]; exact hslots) fun cA kA comp f1 f2 f3 f4 => ?_
  rw [hcn]
  generalize hH1 : H.push ({ cls := cA, slots := Array.replicate N .null, vm := .none } : Cell) = H1
  have z1 : H1.size = H.size + 1 := by rw [← hH1, Array.size_push]
  have e1 : H1[H.size]? = some (arrV cA N (fun _ => .null)) := by rw [← hH1, Array.getElem?_push_size, ← arrV_new]
  have o1 : ∀ q : Nat, q < H.size → H1[q]? = H[q]? := fun q hq => by rw [← hH1, Array.getElem?_push, if_neg (Nat.ne_of_lt hq)]
  have kk := k H1 ⟨by omega, hG.more hsz o1 ?_, ⟨by have := hS.1; omega, fun x h1 h2 => (o1 x (by have := hS.1; omega)).trans (hS.2.1 x h1 h2), hS.2.2⟩, fun q hq j => hF q (by omega) j⟩
  · rw [rfv_ref (by omega)] at kk
    rw [hsz]
    exact kk
  · obtain ⟨kA', comp', -, -, -, g4⟩ := (C.1.2.2.2.2.2.1.2 g _ hty2).2
    have hcA : cA = D.2.1 g := Option.some.inj (f1.symm.trans g4)
    subst hcA
    rw [hk, rent_r (by omega), show (10000 * (g + 1) + N) % 10000 = N by omega, show (10000 * (g + 1) + N) / 10000 - 1 = g by omega]
    show H1[b + n]? = some (vp_cell _ _)
    rw [← hsz, e1, vp_cell_q]
    congr 2
    funext j
    rw [hF n (Int.le_refl _) j]
    unfold rdf
    rw [hk, if_neg (by omega), if_neg (by omega)]
    rfl
theorem Rw.set {H1 : Heap} {locs1 : List Loc} {o j v : Int} {x : va_E} {t : Nat} (h : Rw D b n ν s.heap H locs) (ho : isK o t) (hon : o < n) (hP : va_P D.1 vw ((wl D b n kd ν).set o.toNat (b + o.toNat, x)) H1) (hz : H1.size = H.size) (hS : va_S (Ag b) s.heap H1 locs1) (hx : x = rent D b t (fun i => if i = j then v else ν o i)) : Rw D b n (ms ν o j v) s.heap H1 locs1 := by
  obtain ⟨h1, h2, h3, h4⟩ := h
  refine ⟨by omega, ?_, hS, fun k hk i => ?_⟩
  · refine Gw.of (ν := ν) (by have := ho.1; omega) hP ?_ ?_
    · rw [toNat_cast ho.1, ho.2, hx]
      congr 1
      funext i
      unfold ms
      by_cases e9 : i = j
      · rw [if_pos e9, if_pos ⟨rfl, e9⟩]
      · rw [if_neg e9, if_neg (fun q => e9 q.2)]
    · intro q hq
      funext i
      unfold ms
      rw [if_neg (fun w => hq (by have := ho.1; omega))]
  · unfold ms
    rw [if_neg (fun w => by omega)]
    exact h4 k hk i
theorem rx_obj {o : Int} {t j N : Nat} {z : Int} (ht : t < 100) (hN : nfd t = N) (hj : j < N) : (.inr (t, (rfs b t (ν o)).set j (rval b (ftg t j) z)) : va_E) = rent D b t (fun i => if i = (j : Int) then z else ν o i) := by
  rw [rent_obj ht]
  congr 2
  rw [rfs_set (row' := fun i => if i = (j : Int) then z else ν o i) (by rw [hN]; exact hj) ?_ ?_]
  · intro i hi
    rw [if_neg (by omega)]
  · rw [if_pos rfl]
theorem rr_put (C : CxI p s m args meth c D b cc nL own) (h : Rw D b n ν s.heap H locs) {o : Int} {t N idx : Nat} {Cn : String} {T : u_T} {ty : Nat → FieldType} (hC : ClsOk t Cn T N ty) (ho : isK o t) (hon : o < n) (j : Nat) (hj : j < N) (hlk : Cond.fieldLink own idx (T j).1 (T j).2.1 (T j).2.2.1 ∈ gT) (hf : (T j).2.2.2 = false) {z : Int} {v : Value} (hv : rval b (ftg t j) z = v) (hn : narrow (ty j) v = v) (hfit : fits (ty j) v = true) (hd : decode cc pc = .ok (.putfield idx, 3)) {jz : Int} (hjz : (j : Int) = jz)
    (kk : ∀ (H : Heap) (locs : List Loc), Rw D b n (ms ν o jz z) s.heap H locs → W p l e R s m args below meth c H locs cells slots Q (F0 m (pc + 3) ls rest)) : W p l e R s m args below meth c H locs cells slots Q (F0 m pc ls (v :: rfv b o :: rest)) := by
  subst hjz
  have hCC := hC
  obtain ⟨hc, hN, ht, hin, hty, hnm⟩ := hC
  rw [rfv_ref ho.1]
  have hts := C.1.2.2.2.2.1
  have hK := C.1.2.2.2.2.2.1
  have he := wl_o (D := D) (b := b) (ν := ν) ho hon
  rw [rent_obj ht] at he
  have hP := h.2.1.P
  have hD := wl_D (D := D) (b := b) (n := n) (sh := kd) (ν := ν) (A := Ag b) (fun q hq => hq.1)
  have hap := va_apart (own := own) hts hin ty hty hnm hK hc
  obtain ⟨r, h1, cell, q1, q2, q3, q4⟩ := hP o.toNat _ he
  have hr : r = (Cn, T, N) := Option.some.inj (h1.symm.trans hc)
  subst hr
  obtain ⟨hS, hfc, kC, hkC, hkind⟩ := hK.1 t _ hc
  obtain ⟨cf, kf, fi, f, hi, hsl⟩ := hS j hj
  have hlay := hts _ (hin _ (u_in_lay hj))
  unfold u_lay at hlay
  rw [if_neg (by rw [hf]; decide)] at hlay
  have hst := (u_facts hfc hkC (u_lays hts hin hj) hi).1
  have h6 := u_store hfc hkC hkind hlay hi (hty j hj) hn hfit
  refine W.putK C.1.1 C.1.2.1 (f := f) ⟨C.1.2.2.2.1, hts _ hlk, ⟨_, _, _, hi⟩, hst⟩ (by rw [q2]; exact h6) q1 q3 (by rw [hsl]; exact k2_hasslot (q4 j hj)) rfl rfl hd fun H' e1 e2 e3 => ?_
  rw [hsl] at e1 ⊢
  have hl : j < (rfs b t (ν o)).length := by rw [rfs_len, hN]; exact hj
  refine kk H' _ (Rw.set (x := .inr (t, (rfs b t (ν o)).set j v)) h ho hon (hP.set hD he ⟨_, hc, t_OB.to (V := updV (vp_V (rfs b t (ν o))) j v) ⟨_, e1, q2, q3, t_set q4 hap hj v⟩ (fun i _ => vp_updV_set hl v i)⟩ e3) e2 (h.2.2.1.put e2 e3 (hD.2 o.toNat _ he)) ?_)
  rw [← hv]
  exact rx_obj ht hN hj
theorem rr_putF (C : CxI p s m args meth c D b cc nL own) (h : Rw D b n ν s.heap H locs) {o : Int} {t N idx : Nat} {Cn : String} {T : u_T} {ty : Nat → FieldType} (hC : ClsOk t Cn T N ty) (ho : isK o t) (hon : o < n) (j : Nat) (hj : j < N) (hlk : Cond.fieldLink own idx (T j).1 (T j).2.1 (T j).2.2.1 ∈ gT) (hf : (T j).2.2.2 = true) (hdecl : (T j).1 = own) {z : Int} {v : Value} (hv : rval b (ftg t j) z = v) (hn : narrow (ty j) v = v) (hfit : fits (ty j) v = true) (hd : decode cc pc = .ok (.putfield idx, 3)) {jz : Int} (hjz : (j : Int) = jz)
    (kk : ∀ (H : Heap) (locs : List Loc), Rw D b n (ms ν o jz z) s.heap H locs → W p l e R s m args below meth c H locs cells slots Q (F0 m (pc + 3) ls rest)) : W p l e R s m args below meth c H locs cells slots Q (F0 m pc ls (v :: rfv b o :: rest)) := by
  subst hjz
  obtain ⟨hc, hN, ht, hin, hty, hnm⟩ := hC
  rw [rfv_ref ho.1]
  have hts := C.1.2.2.2.2.1
  have hK := C.1.2.2.2.2.2.1
  have hown := C.1.2.2.2.1
  have he := wl_o (D := D) (b := b) (ν := ν) ho hon
  rw [rent_obj ht] at he
  have hP := h.2.1.P
  have hD := wl_D (D := D) (b := b) (n := n) (sh := kd) (ν := ν) (A := Ag b) (fun q hq => hq.1)
  have hap := va_apart (own := own) hts hin ty hty hnm hK hc
  obtain ⟨r, h1, cell, q1, q2, q3, q4⟩ := hP o.toNat _ he
  have hr : r = (Cn, T, N) := Option.some.inj (h1.symm.trans hc)
  subst hr
  obtain ⟨hS, hfc, kC, hkC, hkind⟩ := hK.1 t _ hc
  obtain ⟨cf, kf, fi, f, hi, hsl⟩ := hS j hj
  have hlay := hts _ (hin _ (u_in_lay hj))
  unfold u_lay at hlay
  rw [if_pos hf] at hlay
  have hst := (u_facts hfc hkC (u_lays hts hin hj) hi).1
  have hcf : m.cls = cf := by
    obtain ⟨_, _, c', _, _, _, -, -, hf', -, -, -, hown2, -⟩ := Cond.laysFinal_spec hlay
    have e1 : c' = cf := by have := hi.symm.trans hf'; simp at this; exact this.1.symm
    rw [hdecl] at hown2
    rw [← e1]; exact Option.some.inj (hown.symm.trans hown2)
  have h6 := u_fits hfc hkC hkind (Or.inr hlay) hi (hty j hj) hn hfit
  refine W.putFinK C.1.1 C.1.2.1 hown (hts _ hlk) hi hst hcf C.2.1 (by rw [q2]; exact h6) q1 q3 (by rw [hsl]; exact k2_hasslot (q4 j hj)) rfl rfl hd fun H' e1 e2 e3 => ?_
  rw [hsl] at e1 ⊢
  have hl : j < (rfs b t (ν o)).length := by rw [rfs_len, hN]; exact hj
  refine kk H' _ (Rw.set (x := .inr (t, (rfs b t (ν o)).set j v)) h ho hon (hP.set hD he ⟨_, hc, t_OB.to (V := updV (vp_V (rfs b t (ν o))) j v) ⟨_, e1, q2, q3, t_set q4 hap hj v⟩ (fun i _ => vp_updV_set hl v i)⟩ e3) e2 (h.2.2.1.put e2 e3 (hD.2 o.toNat _ he)) ?_)
  rw [← hv]
  exact rx_obj ht hN hj
theorem rr_get (C : CxI p s m args meth c D b cc nL own) (h : Rw D b n ν s.heap H locs) {o : Int} {t N idx : Nat} {Cn : String} {T : u_T} {ty : Nat → FieldType} (hC : ClsOk t Cn T N ty) (ho : isK o t) (hon : o < n) (j : Nat) (hj : j < N) (hlk : Cond.fieldLink own idx (T j).1 (T j).2.1 (T j).2.2.1 ∈ gT) {z : Int} (hz : ν o j = z) {v : Value} (hv : rval b (ftg t j) z = v) (hd : decode cc pc = .ok (.getfield idx, 3)) (k : W p l e R s m args below meth c H locs cells slots Q (F0 m (pc + 3) ls (v :: rest))) : W p l e R s m args below meth c H locs cells slots Q (F0 m pc ls (rfv b o :: rest)) := by
  obtain ⟨hc, hN, ht, hin, hty, hnm⟩ := hC
  rw [rfv_ref ho.1]
  have he := wl_o (D := D) (b := b) (ν := ν) ho hon
  rw [rent_obj ht] at he
  exact va_get C.1.1 C.1.2.1 C.1.2.2.2.2.1 hin C.1.2.2.2.1 C.1.2.2.2.2.2.1 h.2.1.P o.toNat he hc j hj (C.1.2.2.2.2.1 _ hlk) (fun _ h9 => h9) (v := v) (by rw [rfs_at (by rw [hN]; exact hj), hz, hv]) hd k
theorem wl_qr {o : Int} {g N : Nat} (hg : 4 ≤ g ∧ g < 7) (hN : N < 10000) (ho : isK o (10000 * (g + 1) + N)) (hon : o < n) : (wl D b n kd ν)[o.toNat]? = some (b + o.toNat, .inl (D.2.1 g, N, .inr (.inr (.inr (.inr fun j => rfo b (ν o j)))))) := by
  rw [wl_o ho hon, rent_r (by omega)]
  rw [show (10000 * (g + 1) + N) / 10000 - 1 = g by omega, show (10000 * (g + 1) + N) % 10000 = N by omega]
theorem rr_alen (C : CxI p s m args meth c D b cc nL own) (h : Rw D b n ν s.heap H locs) {o x : Int} {g N : Nat} {Cn : String} (hg : 4 ≤ g ∧ g < 7) (hty2 : (tysD D)[g]? = some (D.2.1 g, .object Cn)) (hN : N < 10000) (ho : isK o (10000 * (g + 1) + N)) (hon : o < n) (hx : Int32.ofNat N = jI x) (hd : decode cc pc = .ok (.arraylength, 1)) (k : W p l e R s m args below meth c H locs cells slots Q (F0 m (pc + 1) ls (.int (jI x) :: rest))) : W p l e R s m args below meth c H locs cells slots Q (F0 m pc ls (rfv b o :: rest)) := by
  rw [rfv_ref ho.1]
  exact va_alen C.1.1 C.1.2.1 C.1.2.2.2.2.2.1 h.2.1.P o.toNat g (wl_qr hg hN ho hon) hty2 hx hd k
theorem rr_aald (C : CxI p s m args meth c D b cc nL own) (h : Rw D b n ν s.heap H locs) {o i z : Int} {g N : Nat} {Cn : String} (hg : 4 ≤ g ∧ g < 7) (hty2 : (tysD D)[g]? = some (D.2.1 g, .object Cn)) (hN : N < 10000) (ho : isK o (10000 * (g + 1) + N)) (hon : o < n) (hi : 0 ≤ nrm i ∧ nrm i < N) (hz : ν o (nrm i) = z) (hd : decode cc pc = .ok (.aaload, 1)) (k : W p l e R s m args below meth c H locs cells slots Q (F0 m (pc + 1) ls (rfv b z :: rest))) : W p l e R s m args below meth c H locs cells slots Q (F0 m pc ls (.int (jI i) :: rfv b o :: rest)) := by
  rw [rfv_ref ho.1]
  refine va_aldq C.1.1 C.1.2.1 C.1.2.2.2.2.2.1 h.2.1.P o.toNat g (wl_qr hg hN ho hon) hty2 (in_nrm hi) hd ?_
  rw [clamp_nrm hi.1, hz]; exact k
theorem rr_aast (C : CxI p s m args meth c D b cc nL own) (h : Rw D b n ν s.heap H locs) {o i v : Int} {g N t N2 : Nat} {Cn : String} {T : u_T} {ty : Nat → FieldType} (hC : ClsOk t Cn T N2 ty) (hg : 4 ≤ g ∧ g < 7) (hty2 : (tysD D)[g]? = some (D.2.1 g, .object Cn)) (hN : N < 10000) (ho : isK o (10000 * (g + 1) + N)) (hon : o < n) (hv : isK v t) (hvn : v < n) (hi : 0 ≤ nrm i ∧ nrm i < N) (hd : decode cc pc = .ok (.aastore, 1)) {jz : Int} (hjz : nrm i = jz)
    (kk : ∀ (H : Heap) (locs : List Loc), Rw D b n (ms ν o jz v) s.heap H locs → W p l e R s m args below meth c H locs cells slots Q (F0 m (pc + 1) ls rest)) : W p l e R s m args below meth c H locs cells slots Q (F0 m pc ls (rfv b v :: .int (jI i) :: rfv b o :: rest)) := by
  subst hjz
  obtain ⟨hc, hN2, ht, -, -, -⟩ := hC
  rw [rfv_ref ho.1, rfv_ref hv.1]
  have hK := C.1.2.2.2.2.2.1
  have ha := wl_qr (D := D) (b := b) (ν := ν) hg hN ho hon
  have hvv := wl_o (D := D) (b := b) (ν := ν) hv hvn
  rw [rent_obj ht] at hvv
  have hP := h.2.1.P
  have hD := wl_D (D := D) (b := b) (n := n) (sh := kd) (ν := ν) (A := Ag b) (fun q hq => hq.1)
  have hin := in_nrm hi
  have hlt : (jI i).toNatClampNeg < N := Nat.not_le.mp fun q => hin (Or.inr q)
  have h0 : ¬ jI i < 0 := fun q => hin (Or.inl q)
  obtain ⟨r', hr', cellV, g1, g2, g3, -⟩ := hP v.toNat _ hvv
  have hcls := (hK.1 t _ hc).2
  obtain ⟨kA, comp, k1, k2, k3, -⟩ := (hK.2 g _ hty2).2
  have hcomp : comp = D.1.1 t := Option.some.inj (k3.symm.trans hcls.1)
  subst hcomp
  obtain ⟨kC, hkC, -⟩ := hcls.2
  refine W.aast C.1.1 C.1.2.1 (hP o.toNat _ ha) (fun q h => by cases h) (fun h => by cases h) k1 k2 rfl hkC ⟨h0, by show _ < (arrV _ _ _).slots.size; rw [arrV_size]; exact hlt⟩ g1 (fun q h => by rw [g3] at h; cases h) (by rw [g2]; exact hkC) (by rw [g2]; exact va_assign hcls) rfl rfl hd fun H1 e9 z9 oq => ?_
  refine kk H1 _ (h.set ho hon (hP.set hD ha (?_ : va_at D.1 vw (b + o.toNat, .inl (D.2.1 g, N, .inr (.inr (.inr (.inr (va_up (fun j : Nat => rfo b (ν o j)) (jI i).toNatClampNeg (some (b + v.toNat)))))))) H1) oq) z9 (h.2.2.1.put z9 oq (hD.2 o.toNat _ ha)) ?_)
  · show H1[b + o.toNat]? = some (vp_cell _ _)
    rw [e9, vp_cell_q, vp_cell_q, arrV_store]
    congr 2
    funext q
    by_cases hq : q = (jI i).toNatClampNeg
    · subst hq
      simp [updV, va_up, va_rf]
    · simp [updV, va_up, hq]
  · rw [rent_r (by omega), show (10000 * (g + 1) + N) / 10000 - 1 = g by omega, show (10000 * (g + 1) + N) % 10000 = N by omega]
    congr 8
    funext q
    unfold va_up
    by_cases hq : q = (jI i).toNatClampNeg
    · rw [if_pos hq, if_pos (by rw [hq, clamp_nrm hi.1])]
      unfold rfo
      rw [if_neg (by have := hv.1; omega)]
    · rw [if_neg hq, if_neg (fun w => hq (by have := clamp_nrm hi.1; omega))]
theorem rr_iast (C : CxI p s m args meth c D b cc nL own) (h : Rw D b n ν s.heap H locs) {o i v : Int} {N : Nat} (hN : N < 10000) (ho : isK o (10000 + N)) (hon : o < n) (hi : 0 ≤ nrm i ∧ nrm i < N) (hd : decode cc pc = .ok (.iastore, 1)) {jz : Int} (hjz : nrm i = jz)
    (kk : ∀ (H : Heap) (locs : List Loc), Rw D b n (ms ν o jz v) s.heap H locs → W p l e R s m args below meth c H locs cells slots Q (F0 m (pc + 1) ls rest)) : W p l e R s m args below meth c H locs cells slots Q (F0 m pc ls (.int (jI v) :: .int (jI i) :: rfv b o :: rest)) := by
  subst hjz
  rw [rfv_ref ho.1]
  have hK := C.1.2.2.2.2.2.1
  have ha := wl_o (D := D) (b := b) (ν := ν) ho hon
  rw [rent_i (by omega) (by omega), show (10000 + N) / 10000 - 1 = 0 by omega, show (10000 + N) % 10000 = N by omega] at ha
  have hP := h.2.1.P
  have hD := wl_D (D := D) (b := b) (n := n) (sh := kd) (ν := ν) (A := Ag b) (fun q hq => hq.1)
  refine W.iast C.1.1 C.1.2.1 (hP o.toNat _ ha) ((hK.2 0 _ (tysD_at D 0 (by decide))).1 N (fun j => .int (jI (ν o j)))) (fun q => by cases q) (by show ¬ (_ < 0 ∨ (arrV _ _ _).slots.size ≤ _); rw [arrV_size]; exact in_nrm hi) rfl rfl hd fun H1 e9 z9 oq => ?_
  refine kk H1 _ (h.set ho hon (hP.set hD ha (?_ : va_at D.1 vw (b + o.toNat, .inl (D.2.1 0, N, .inl (upd (fun j : Nat => jI (ν o j)) (jI i).toNatClampNeg (jI v)))) H1) oq) z9 (h.2.2.1.put z9 oq (hD.2 o.toNat _ ha)) ?_)
  · show H1[b + o.toNat]? = some (vp_cell _ _)
    rw [e9, vp_cell_i, vp_cell_i, arrV_store]
    congr 2
    funext q
    by_cases hq : q = (jI i).toNatClampNeg
    · subst hq
      simp [updV, upd]
    · simp [updV, upd, hq]
  · rw [rent_i (by omega) (by omega), show (10000 + N) / 10000 - 1 = 0 by omega, show (10000 + N) % 10000 = N by omega]
    congr 5
    funext q
    unfold upd
    by_cases hq : q = (jI i).toNatClampNeg
    · rw [if_pos hq, if_pos (by rw [hq, clamp_nrm hi.1])]
    · rw [if_neg hq, if_neg (fun w => hq (by have := clamp_nrm hi.1; omega))]
end RAW
