/-! memory: fields and rows of the world -/
theorem toNat_cast {o : Int} (h : 0 ≤ o) : ((o.toNat : Nat) : Int) = o := Int.toNat_of_nonneg h
def ClsOk (t : Nat) (Cn : String) (T : u_T) (N : Nat) (ty : Nat → FieldType) : Prop := vw[t]? = some (Cn, T, N) ∧ nfd t = N ∧ t < 100 ∧ (∀ w ∈ u_ws Cn T N, w ∈ gT) ∧ (∀ k, k < N → parseFieldDescriptor (T k).2.2.1 = some (ty k)) ∧ (∀ a, a < N → ∀ b, b < N → a ≠ b → (T a).2.1 ≠ (T b).2.1)
theorem rfs_len {b t : Nat} {row : Int → Int} : (rfs b t row).length = nfd t := by simp [rfs]
theorem rfs_at {b t j : Nat} {row : Int → Int} (h : j < nfd t) : (rfs b t row)[j]? = some (rval b (ftg t j) (row j)) := by
  simp [rfs, List.getElem?_map, List.getElem?_range h]
theorem rfs_set {b t j : Nat} {row row' : Int → Int} {v : Int} (h : j < nfd t) (hr : ∀ i : Nat, i ≠ j → row' (i : Int) = row (i : Int)) (hv : row' (j : Int) = v) : (rfs b t row).set j (rval b (ftg t j) v) = rfs b t row' := by
  apply List.ext_getElem?
  intro i
  by_cases hi : i < nfd t
  · by_cases e : i = j
    · subst e
      rw [List.getElem?_set_self (by rw [rfs_len]; exact h), rfs_at hi, hv]
    · rw [List.getElem?_set_ne (Ne.symm e), rfs_at hi, rfs_at hi, hr i e]
  · rw [List.getElem?_eq_none (by rw [List.length_set, rfs_len]; omega), List.getElem?_eq_none (by rw [rfs_len]; omega)]
theorem mg_obj {μ : Mem} {o : Int} {t : Nat} {j : Int} (ho : isK o t) (ht : t < 100) (h : ftg t j.toNat < 0) : mg μ o j = μ o j := by
  unfold mg
  rw [ho.2, if_pos ht, if_neg (by omega)]
theorem mg_fin {μ : Mem} {o : Int} {t : Nat} {j : Int} {f : Int} (ho : isK o t) (ht : t < 100) (h : ftg t j.toNat = f) (hf : 0 ≤ f) : mg μ o j = o + f := by
  unfold mg
  rw [ho.2, if_pos ht, h, if_pos hf]
theorem mg_arr {μ : Mem} {o : Int} {t : Nat} {j : Int} (ho : isK o t) (ht : 100 ≤ t) (h : t < 50000) : mg μ o j = μ o j := by
  unfold mg
  rw [ho.2, if_neg (by omega), if_neg (by omega), if_neg (by omega)]
theorem mg_put {μ : Mem} {o : Int} {t : Nat} {j v : Int} (ho : isK o t) (h : (t < 100 ∧ ftg t j.toNat < 0) ∨ (100 ≤ t ∧ t < 50000)) (k i : Int) : mg (ms μ o j v) k i = if k = o ∧ i = j then v else mg μ k i := by
  by_cases e : k = o
  · subst e
    by_cases ei : i = j
    · subst ei
      rw [if_pos ⟨rfl, rfl⟩]
      rcases h with h | h
      · rw [mg_obj ho h.1 h.2]; simp [ms]
      · rw [mg_arr ho h.1 h.2]; simp [ms]
    · rw [if_neg (fun q => ei q.2)]
      unfold mg
      have : ms μ k j v k i = μ k i := by unfold ms; rw [if_neg (fun q => ei q.2)]
      rw [this]
  · rw [if_neg (fun q => e q.1)]
    unfold mg
    have : ms μ o j v k i = μ k i := by unfold ms; rw [if_neg (fun q => e q.1)]
    rw [this]
theorem rent_obj {D : Ds} {b t : Nat} {row : Int → Int} (ht : t < 100) : rent D b t row = .inr (t, rfs b t row) := by unfold rent; rw [if_pos ht]
theorem rent_i {D : Ds} {b t : Nat} {row : Int → Int} (h1 : 100 ≤ t) (h2 : t < 40000) : rent D b t row = .inl (D.2.1 (t / 10000 - 1), t % 10000, .inl fun j => jI (row j)) := by unfold rent; rw [if_neg (by omega), if_pos h2]
theorem rent_l {D : Ds} {b t : Nat} {row : Int → Int} (h1 : 40000 ≤ t) (h2 : t < 50000) : rent D b t row = .inl (D.2.1 3, t % 10000, .inr (.inl fun j => jL (row j))) := by unfold rent; rw [if_neg (by omega), if_neg (by omega), if_pos h2]
theorem rent_r {D : Ds} {b t : Nat} {row : Int → Int} (h1 : 50000 ≤ t) : rent D b t row = .inl (D.2.1 (t / 10000 - 1), t % 10000, .inr (.inr (.inr (.inr fun j => rfo b (row j))))) := by unfold rent; rw [if_neg (by omega), if_neg (by omega), if_neg (by omega)]
theorem wl_k {D : Ds} {b t : Nat} {μ : Mem} {o : Int} (ho : isK o t) (ht : t ≠ 999) : (wl D b NC kd (mg μ))[o.toNat]? = some (b + o.toNat, rent D b t (mg μ o)) := by
  rw [wl_at (ho.lt ht), toNat_cast ho.1, ho.2]
theorem clamp_nrm {i : Int} (h : 0 ≤ nrm i) : (((jI i).toNatClampNeg : Nat) : Int) = nrm i := by
  show (((jI i).toInt.toNat : Nat) : Int) = (jI i).toInt
  exact Int.toNat_of_nonneg h
theorem in_nrm {i : Int} {n : Nat} (h : 0 ≤ nrm i ∧ nrm i < n) : vp_in (jI i) n := vp_in_iff.mpr h
section MEM
variable {p : Program} {l : Launch} {e : Env} {R : Room} {s : State} {m : MethodId} {args : Array Value} {below : List Frame} {meth : Method} {c : Code} {H : Heap} {locs : List Loc} {cells slots : Nat} {Q : State → Prop}
variable {D : Ds} {cc : ByteArray} {nL : Nat} {own : String} {ret : Option FieldType} {pc : Nat} {ls : Array Slot} {rest : List Value} {b : Nat} {μ : Mem} {H0 : Heap}
theorem r_get (C : Cx p s m args meth c D b cc nL own ret) (hw : Hw D b μ H0 H locs) {o : Int} {t N idx : Nat} {Cn : String} {T : u_T} {ty : Nat → FieldType} (hC : ClsOk t Cn T N ty) (ho : isK o t) (j : Nat) (hj : j < N) (hlk : Cond.fieldLink own idx (T j).1 (T j).2.1 (T j).2.2.1 ∈ gT) {v : Value} (hv : rval b (ftg t j) (mg μ o j) = v) (hd : decode cc pc = .ok (.getfield idx, 3)) (k : W p l e R s m args below meth c H locs cells slots Q (F0 m (pc + 3) ls (v :: rest))) : W p l e R s m args below meth c H locs cells slots Q (F0 m pc ls (rfv b o :: rest)) := by
  obtain ⟨hc, hN, ht, hin, hty, hnm⟩ := hC
  rw [rfv_ref ho.1]
  have he := wl_k (D := D) (b := b) (μ := μ) ho (by omega)
  rw [rent_obj ht] at he
  exact va_get C.1 C.2.1 C.2.2.2.2.1 hin C.2.2.2.1 C.2.2.2.2.2.1 hw.1.P o.toNat he hc j hj (C.2.2.2.2.1 _ hlk) (fun _ h9 => h9) (v := v) (by rw [rfs_at (by rw [hN]; exact hj), hv]) hd k
theorem r_put (C : Cx p s m args meth c D b cc nL own ret) (hw : Hw D b μ H0 H locs) {o : Int} {t N idx : Nat} {Cn : String} {T : u_T} {ty : Nat → FieldType} (hC : ClsOk t Cn T N ty) (ho : isK o t) (j : Nat) (hj : j < N) (hlk : Cond.fieldLink own idx (T j).1 (T j).2.1 (T j).2.2.1 ∈ gT) (hf : (T j).2.2.2 = false) (hg : ftg t j < 0) {z : Int} {v : Value} (hv : rval b (ftg t j) z = v) (hn : narrow (ty j) v = v) (hfit : fits (ty j) v = true) (hd : decode cc pc = .ok (.putfield idx, 3)) (k : ∀ (H : Heap) (locs : List Loc), Hw D b (ms μ o j z) H0 H locs → W p l e R s m args below meth c H locs cells slots Q (F0 m (pc + 3) ls rest)) : W p l e R s m args below meth c H locs cells slots Q (F0 m pc ls (v :: rfv b o :: rest)) := by
  obtain ⟨hc, hN, ht, hin, hty, hnm⟩ := hC
  rw [rfv_ref ho.1]
  have he := wl_k (D := D) (b := b) (μ := μ) ho (by omega)
  rw [rent_obj ht] at he
  refine va_put C.1 C.2.1 C.2.2.2.2.1 hin ty hty hnm C.2.2.2.1 C.2.2.2.2.2.1 hw.1.P (wl_D (fun _ h => h)) hw.2 o.toNat he hc j hj (C.2.2.2.2.1 _ hlk) (fun _ h9 => h9) hf (hty j hj) hn hfit (by rw [rfs_len, hN]; exact hj) hd (fun H1 locs1 hP hD hS => k H1 locs1 ⟨?_, hS⟩)
  refine Gw.of (ν := mg μ) (ho.lt (by omega)) hP ?_ ?_
  · rw [toNat_cast ho.1, ho.2, rent_obj ht, ← hv]
    rw [rfs_set (row' := mg (ms μ o j z) o) (by rw [hN]; exact hj) ?_ ?_]
    · intro i hi
      rw [mg_put (j := (j : Int)) ho (Or.inl ⟨ht, hg⟩), if_neg (fun q => hi (by omega))]
    · rw [mg_put (j := (j : Int)) ho (Or.inl ⟨ht, hg⟩), if_pos ⟨rfl, rfl⟩]
  · intro i hi
    funext z9
    rw [mg_put (j := (j : Int)) ho (Or.inl ⟨ht, hg⟩), if_neg (fun q => hi (by omega))]
theorem tysD_at (D : Ds) (i : Nat) (hi : i < 4) : (tysD D)[i]? = some (D.2.1 i, ([.int, .byte, .boolean, .long] : List FieldType).getD i .int) := by
  rcases (show i = 0 ∨ i = 1 ∨ i = 2 ∨ i = 3 by omega) with rfl | rfl | rfl | rfl <;> rfl
theorem wl_i {D : Ds} {b : Nat} {μ : Mem} {o : Int} {g n : Nat} (hg : 0 < g ∧ g < 4) (hn : n < 10000) (ho : isK o (10000 * g + n)) : (wl D b NC kd (mg μ))[o.toNat]? = some (b + o.toNat, .inl (D.2.1 (g - 1), n, .inl fun j => jI (μ o j))) := by
  rw [wl_k ho (by omega), rent_i (by omega) (by omega)]
  rw [show (10000 * g + n) / 10000 - 1 = g - 1 by omega, show (10000 * g + n) % 10000 = n by omega]
  have : (fun j : Nat => jI (mg μ o j)) = fun j : Nat => jI (μ o j) := by funext j; rw [mg_arr ho (by omega) (by omega)]
  rw [this]
theorem wl_j {D : Ds} {b : Nat} {μ : Mem} {o : Int} {n : Nat} (hn : n < 10000) (ho : isK o (40000 + n)) : (wl D b NC kd (mg μ))[o.toNat]? = some (b + o.toNat, .inl (D.2.1 3, n, .inr (.inl fun j => jL (μ o j)))) := by
  rw [wl_k ho (by omega), rent_l (by omega) (by omega)]
  rw [show (40000 + n) % 10000 = n by omega]
  have : (fun j : Nat => jL (mg μ o j)) = fun j : Nat => jL (μ o j) := by funext j; rw [mg_arr ho (by omega) (by omega)]
  rw [this]
theorem r_iald (C : Cx p s m args meth c D b cc nL own ret) (hw : Hw D b μ H0 H locs) {o i j : Int} {n : Nat} (hk : isK o (10000 + n)) (hj : nrm i = j) (hi : 0 ≤ j ∧ j < n) (hn : n < 10000) (hd : decode cc pc = .ok (.iaload, 1)) (k : W p l e R s m args below meth c H locs cells slots Q (F0 m (pc + 1) ls (.int (jI (μ o j)) :: rest))) : W p l e R s m args below meth c H locs cells slots Q (F0 m pc ls (.int (jI i) :: rfv b o :: rest)) := by
  subst hj
  rw [rfv_ref hk.1]
  refine va_iald C.1 C.2.1 C.2.2.2.2.2.1 hw.1.P o.toNat 0 (wl_i (g := 1) (by decide) hn hk) (tysD_at D 0 (by decide)) (in_nrm hi) hd ?_
  rw [clamp_nrm hi.1]; exact k
theorem r_bald (C : Cx p s m args meth c D b cc nL own ret) (hw : Hw D b μ H0 H locs) {o i j : Int} {n : Nat} (hk : isK o (20000 + n)) (hj : nrm i = j) (hi : 0 ≤ j ∧ j < n) (hn : n < 10000) (hd : decode cc pc = .ok (.baload, 1)) (k : W p l e R s m args below meth c H locs cells slots Q (F0 m (pc + 1) ls (.int (jI (μ o j)) :: rest))) : W p l e R s m args below meth c H locs cells slots Q (F0 m pc ls (.int (jI i) :: rfv b o :: rest)) := by
  subst hj
  rw [rfv_ref hk.1]
  refine va_bald C.1 C.2.1 C.2.2.2.2.2.1 hw.1.P o.toNat 1 (wl_i (g := 2) (by decide) hn hk) (tysD_at D 1 (by decide)) (in_nrm hi) hd ?_
  rw [clamp_nrm hi.1]; exact k
theorem r_zald (C : Cx p s m args meth c D b cc nL own ret) (hw : Hw D b μ H0 H locs) {o i j : Int} {n : Nat} (hk : isK o (30000 + n)) (hj : nrm i = j) (hi : 0 ≤ j ∧ j < n) (hn : n < 10000) (hd : decode cc pc = .ok (.baload, 1)) (k : W p l e R s m args below meth c H locs cells slots Q (F0 m (pc + 1) ls (.int (jI (μ o j)) :: rest))) : W p l e R s m args below meth c H locs cells slots Q (F0 m pc ls (.int (jI i) :: rfv b o :: rest)) := by
  subst hj
  rw [rfv_ref hk.1]
  refine va_zald C.1 C.2.1 C.2.2.2.2.2.1 hw.1.P o.toNat 2 (wl_i (g := 3) (by decide) hn hk) (tysD_at D 2 (by decide)) (in_nrm hi) hd ?_
  rw [clamp_nrm hi.1]; exact k
theorem r_lald (C : Cx p s m args meth c D b cc nL own ret) (hw : Hw D b μ H0 H locs) {o i j : Int} {n : Nat} (hk : isK o (40000 + n)) (hj : nrm i = j) (hi : 0 ≤ j ∧ j < n) (hn : n < 10000) (hd : decode cc pc = .ok (.laload, 1)) (k : W p l e R s m args below meth c H locs cells slots Q (F0 m (pc + 1) ls (.long (jL (μ o j)) :: rest))) : W p l e R s m args below meth c H locs cells slots Q (F0 m pc ls (.int (jI i) :: rfv b o :: rest)) := by
  subst hj
  rw [rfv_ref hk.1]
  refine va_lald C.1 C.2.1 C.2.2.2.2.2.1 hw.1.P o.toNat 3 (wl_j hn hk) (tysD_at D 3 (by decide)) (in_nrm hi) hd ?_
  rw [clamp_nrm hi.1]; exact k
theorem put_arr {H : Heap} {o i v : Int} {t : Nat} {x : va_E} (ho : isK o t) (h9 : t ≠ 999) (h1 : 100 ≤ t) (h2 : t < 50000) (hP : va_P D.1 vw ((wl D b NC kd (mg μ)).set o.toNat (b + o.toNat, x)) H) (hx : x = rent D b t (fun j => if j = i then v else μ o j)) : Gw D b NC kd (mg (ms μ o i v)) H := by
  refine Gw.of (ν := mg μ) (ho.lt h9) hP ?_ ?_
  · rw [toNat_cast ho.1, ho.2, hx]
    congr 1
    funext j
    rw [mg_put ho (Or.inr ⟨h1, h2⟩), mg_arr ho h1 h2]
    by_cases e : j = i
    · rw [if_pos e, if_pos ⟨rfl, e⟩]
    · rw [if_neg e, if_neg (fun q => e q.2)]
  · intro j hj
    funext z9
    rw [mg_put ho (Or.inr ⟨h1, h2⟩), if_neg (fun q => hj (by omega))]
theorem r_iast (C : Cx p s m args meth c D b cc nL own ret) (hw : Hw D b μ H0 H locs) {o i j v : Int} {n : Nat} (hk : isK o (10000 + n)) (hj : nrm i = j) (hi : 0 ≤ j ∧ j < n) (hn : n < 10000) (hd : decode cc pc = .ok (.iastore, 1)) (k : ∀ (H : Heap) (locs : List Loc), Hw D b (ms μ o j (v)) H0 H locs → W p l e R s m args below meth c H locs cells slots Q (F0 m (pc + 1) ls (rest))) : W p l e R s m args below meth c H locs cells slots Q (F0 m (pc) ls (.int (jI v) :: .int (jI i) :: rfv b o :: rest)) := by
  subst hj
  rw [rfv_ref hk.1]
  have ev : jI (v) = jI v := rfl
  refine va_iast C.1 C.2.1 C.2.2.2.2.2.1 hw.1.P (wl_D (fun _ h => h)) hw.2 o.toNat 0 (wl_i (g := 1) (by decide) hn hk) (tysD_at D 0 (by decide)) (in_nrm hi) hd (fun H1 locs1 hP hD hS => k H1 locs1 ⟨put_arr hk (by omega) (by omega) (by omega) hP ?_, hS⟩)
  rw [rent_i (by omega) (by omega), show (10000 + n) / 10000 - 1 = 0 by omega, show (10000 + n) % 10000 = n by omega]
  congr 5
  funext j9
  unfold upd
  by_cases e9 : j9 = (jI i).toNatClampNeg
  · rw [if_pos e9, if_pos (by rw [e9, clamp_nrm hi.1])]; first | done | exact ev.symm
  · rw [if_neg e9, if_neg (fun q => e9 (by have := clamp_nrm hi.1; omega))]
theorem r_bast (C : Cx p s m args meth c D b cc nL own ret) (hw : Hw D b μ H0 H locs) {o i j v : Int} {n : Nat} (hk : isK o (20000 + n)) (hj : nrm i = j) (hi : 0 ≤ j ∧ j < n) (hn : n < 10000) (hd : decode cc pc = .ok (.bastore, 1)) (k : ∀ (H : Heap) (locs : List Loc), Hw D b (ms μ o j (jb v)) H0 H locs → W p l e R s m args below meth c H locs cells slots Q (F0 m (pc + 1) ls (rest))) : W p l e R s m args below meth c H locs cells slots Q (F0 m (pc) ls (.int (jI v) :: .int (jI i) :: rfv b o :: rest)) := by
  subst hj
  rw [rfv_ref hk.1]
  have ev : jI (jb v) = vp_nar .byte (jI v) := by show jI (jb v) = vp_nar .byte (jI v); rw [vp_nar_byte]; exact jI_to _
  refine va_bast C.1 C.2.1 C.2.2.2.2.2.1 hw.1.P (wl_D (fun _ h => h)) hw.2 o.toNat 1 (wl_i (g := 2) (by decide) hn hk) (tysD_at D 1 (by decide)) (in_nrm hi) hd (fun H1 locs1 hP hD hS => k H1 locs1 ⟨put_arr hk (by omega) (by omega) (by omega) hP ?_, hS⟩)
  rw [rent_i (by omega) (by omega), show (20000 + n) / 10000 - 1 = 1 by omega, show (20000 + n) % 10000 = n by omega]
  congr 5
  funext j9
  unfold upd
  by_cases e9 : j9 = (jI i).toNatClampNeg
  · rw [if_pos e9, if_pos (by rw [e9, clamp_nrm hi.1])]; first | done | exact ev.symm
  · rw [if_neg e9, if_neg (fun q => e9 (by have := clamp_nrm hi.1; omega))]
theorem r_zast (C : Cx p s m args meth c D b cc nL own ret) (hw : Hw D b μ H0 H locs) {o i j v : Int} {n : Nat} (hk : isK o (30000 + n)) (hj : nrm i = j) (hi : 0 ≤ j ∧ j < n) (hb : isB v) (hn : n < 10000) (hd : decode cc pc = .ok (.bastore, 1)) (k : ∀ (H : Heap) (locs : List Loc), Hw D b (ms μ o j (v)) H0 H locs → W p l e R s m args below meth c H locs cells slots Q (F0 m (pc + 1) ls (rest))) : W p l e R s m args below meth c H locs cells slots Q (F0 m (pc) ls (.int (jI v) :: .int (jI i) :: rfv b o :: rest)) := by
  subst hj
  rw [rfv_ref hk.1]
  have ev : jI (v) = vp_nar .boolean (jI v) := by unfold vp_nar; rw [(isB_nar hb).1]
  refine va_zast C.1 C.2.1 C.2.2.2.2.2.1 hw.1.P (wl_D (fun _ h => h)) hw.2 o.toNat 2 (wl_i (g := 3) (by decide) hn hk) (tysD_at D 2 (by decide)) (in_nrm hi) hd (fun H1 locs1 hP hD hS => k H1 locs1 ⟨put_arr hk (by omega) (by omega) (by omega) hP ?_, hS⟩)
  rw [rent_i (by omega) (by omega), show (30000 + n) / 10000 - 1 = 2 by omega, show (30000 + n) % 10000 = n by omega]
  congr 5
  funext j9
  unfold upd
  by_cases e9 : j9 = (jI i).toNatClampNeg
  · rw [if_pos e9, if_pos (by rw [e9, clamp_nrm hi.1])]; first | done | exact ev.symm
  · rw [if_neg e9, if_neg (fun q => e9 (by have := clamp_nrm hi.1; omega))]
theorem r_last (C : Cx p s m args meth c D b cc nL own ret) (hw : Hw D b μ H0 H locs) {o i j v : Int} {n : Nat} (hk : isK o (40000 + n)) (hj : nrm i = j) (hi : 0 ≤ j ∧ j < n) (hn : n < 10000) (hd : decode cc pc = .ok (.lastore, 1)) (k : ∀ (H : Heap) (locs : List Loc), Hw D b (ms μ o j v) H0 H locs → W p l e R s m args below meth c H locs cells slots Q (F0 m (pc + 1) ls (rest))) : W p l e R s m args below meth c H locs cells slots Q (F0 m (pc) ls (.long (jL v) :: .int (jI i) :: rfv b o :: rest)) := by
  subst hj
  rw [rfv_ref hk.1]
  refine va_last C.1 C.2.1 C.2.2.2.2.2.1 hw.1.P (wl_D (fun _ h => h)) hw.2 o.toNat 3 (wl_j hn hk) (tysD_at D 3 (by decide)) (in_nrm hi) hd (fun H1 locs1 hP hD hS => k H1 locs1 ⟨put_arr hk (by omega) (by omega) (by omega) hP ?_, hS⟩)
  rw [rent_l (by omega) (by omega), show (40000 + n) % 10000 = n by omega]
  congr 6
  funext j9
  unfold vp_updL
  by_cases e9 : j9 = (jI i).toNatClampNeg
  · rw [if_pos e9, if_pos (by rw [e9, clamp_nrm hi.1])]
  · rw [if_neg e9, if_neg (fun q => e9 (by have := clamp_nrm hi.1; omega))]
theorem wl_q {D : Ds} {b : Nat} {μ : Mem} {o : Int} {g n : Nat} (hg : 4 < g ∧ g < 8) (hn : n < 10000) (ho : isK o (10000 * g + n)) : (wl D b NC kd (mg μ))[o.toNat]? = some (b + o.toNat, .inl (D.2.1 (g - 1), n, .inr (.inr (.inr (.inr fun j => rfo b (mg μ o j)))))) := by
  rw [wl_k ho (by omega), rent_r (by omega)]
  rw [show (10000 * g + n) / 10000 - 1 = g - 1 by omega, show (10000 * g + n) % 10000 = n by omega]
theorem r_aald5 (C : Cx p s m args meth c D b cc nL own ret) (hw : Hw D b μ H0 H locs) {o i j : Int} {n : Nat} (hk : isK o (50000 + n)) (hj : nrm i = j) (hi : 0 ≤ j ∧ j < n) (hn : n < 10000) (hd : decode cc pc = .ok (.aaload, 1)) (k : W p l e R s m args below meth c H locs cells slots Q (F0 m (pc + 1) ls (rfv b (o + 1 + 13 * j) :: rest))) : W p l e R s m args below meth c H locs cells slots Q (F0 m (pc) ls (.int (jI i) :: rfv b o :: rest)) := by
  subst hj
  rw [rfv_ref hk.1]
  refine va_aldq C.1 C.2.1 C.2.2.2.2.2.1 hw.1.P o.toNat 4 (C := "RutWays$Land") (wl_q (g := 5) (by decide) hn hk) rfl (in_nrm hi) hd ?_
  rw [clamp_nrm hi.1]
  unfold mg
  rw [hk.2, if_neg (by omega), if_neg (by omega), if_pos (by omega)]; exact k
theorem r_aald6 (C : Cx p s m args meth c D b cc nL own ret) (hw : Hw D b μ H0 H locs) {o i j : Int} {n : Nat} (hk : isK o (60000 + n)) (hj : nrm i = j) (hi : 0 ≤ j ∧ j < n) (hn : n < 10000) (hd : decode cc pc = .ok (.aaload, 1)) (k : W p l e R s m args below meth c H locs cells slots Q (F0 m (pc + 1) ls (rfv b (o + 1 + 2 * j) :: rest))) : W p l e R s m args below meth c H locs cells slots Q (F0 m (pc) ls (.int (jI i) :: rfv b o :: rest)) := by
  subst hj
  rw [rfv_ref hk.1]
  refine va_aldq C.1 C.2.1 C.2.2.2.2.2.1 hw.1.P o.toNat 5 (C := "RutWays$Course") (wl_q (g := 6) (by decide) hn hk) rfl (in_nrm hi) hd ?_
  rw [clamp_nrm hi.1]
  unfold mg
  rw [hk.2, if_neg (by omega), if_pos (by omega)]; exact k
theorem r_aald7 (C : Cx p s m args meth c D b cc nL own ret) (hw : Hw D b μ H0 H locs) {o i j : Int} {n : Nat} (hk : isK o (70000 + n)) (hj : nrm i = j) (hi : 0 ≤ j ∧ j < n) (hn : n < 10000) (hd : decode cc pc = .ok (.aaload, 1)) (k : W p l e R s m args below meth c H locs cells slots Q (F0 m (pc + 1) ls (rfv b (o + 1 + 2 * j) :: rest))) : W p l e R s m args below meth c H locs cells slots Q (F0 m (pc) ls (.int (jI i) :: rfv b o :: rest)) := by
  subst hj
  rw [rfv_ref hk.1]
  refine va_aldq C.1 C.2.1 C.2.2.2.2.2.1 hw.1.P o.toNat 6 (C := "RutWays$Tray") (wl_q (g := 7) (by decide) hn hk) rfl (in_nrm hi) hd ?_
  rw [clamp_nrm hi.1]
  unfold mg
  rw [hk.2, if_neg (by omega), if_pos (by omega)]; exact k
theorem r_alen1 (C : Cx p s m args meth c D b cc nL own ret) (hw : Hw D b μ H0 H locs) {o : Int} {n : Nat} {z : Int} (hk : isK o (10000 + n)) (hn : n < 10000) (hz : (n : Int) = z) (hd : decode cc pc = .ok (.arraylength, 1)) (k : W p l e R s m args below meth c H locs cells slots Q (F0 m (pc + 1) ls (.int (jI z) :: rest))) : W p l e R s m args below meth c H locs cells slots Q (F0 m (pc) ls (rfv b o :: rest)) := by
  subst hz
  rw [rfv_ref hk.1]
  exact va_alen C.1 C.2.1 C.2.2.2.2.2.1 hw.1.P o.toNat 0 (wl_i (g := 1) (by decide) hn hk) (ty := .int) rfl (v := jI (n : Int)) (by rfl) hd k
theorem r_alen2 (C : Cx p s m args meth c D b cc nL own ret) (hw : Hw D b μ H0 H locs) {o : Int} {n : Nat} {z : Int} (hk : isK o (20000 + n)) (hn : n < 10000) (hz : (n : Int) = z) (hd : decode cc pc = .ok (.arraylength, 1)) (k : W p l e R s m args below meth c H locs cells slots Q (F0 m (pc + 1) ls (.int (jI z) :: rest))) : W p l e R s m args below meth c H locs cells slots Q (F0 m (pc) ls (rfv b o :: rest)) := by
  subst hz
  rw [rfv_ref hk.1]
  exact va_alen C.1 C.2.1 C.2.2.2.2.2.1 hw.1.P o.toNat 1 (wl_i (g := 2) (by decide) hn hk) (ty := .byte) rfl (v := jI (n : Int)) (by rfl) hd k
theorem r_alen3 (C : Cx p s m args meth c D b cc nL own ret) (hw : Hw D b μ H0 H locs) {o : Int} {n : Nat} {z : Int} (hk : isK o (30000 + n)) (hn : n < 10000) (hz : (n : Int) = z) (hd : decode cc pc = .ok (.arraylength, 1)) (k : W p l e R s m args below meth c H locs cells slots Q (F0 m (pc + 1) ls (.int (jI z) :: rest))) : W p l e R s m args below meth c H locs cells slots Q (F0 m (pc) ls (rfv b o :: rest)) := by
  subst hz
  rw [rfv_ref hk.1]
  exact va_alen C.1 C.2.1 C.2.2.2.2.2.1 hw.1.P o.toNat 2 (wl_i (g := 3) (by decide) hn hk) (ty := .boolean) rfl (v := jI (n : Int)) (by rfl) hd k
theorem r_alen4 (C : Cx p s m args meth c D b cc nL own ret) (hw : Hw D b μ H0 H locs) {o : Int} {n : Nat} {z : Int} (hk : isK o (40000 + n)) (hn : n < 10000) (hz : (n : Int) = z) (hd : decode cc pc = .ok (.arraylength, 1)) (k : W p l e R s m args below meth c H locs cells slots Q (F0 m (pc + 1) ls (.int (jI z) :: rest))) : W p l e R s m args below meth c H locs cells slots Q (F0 m (pc) ls (rfv b o :: rest)) := by
  subst hz
  rw [rfv_ref hk.1]
  exact va_alen C.1 C.2.1 C.2.2.2.2.2.1 hw.1.P o.toNat 3 (wl_j hn hk) (ty := .long) rfl (v := jI (n : Int)) (by rfl) hd k
theorem r_alen5 (C : Cx p s m args meth c D b cc nL own ret) (hw : Hw D b μ H0 H locs) {o : Int} {n : Nat} {z : Int} (hk : isK o (50000 + n)) (hn : n < 10000) (hz : (n : Int) = z) (hd : decode cc pc = .ok (.arraylength, 1)) (k : W p l e R s m args below meth c H locs cells slots Q (F0 m (pc + 1) ls (.int (jI z) :: rest))) : W p l e R s m args below meth c H locs cells slots Q (F0 m (pc) ls (rfv b o :: rest)) := by
  subst hz
  rw [rfv_ref hk.1]
  exact va_alen C.1 C.2.1 C.2.2.2.2.2.1 hw.1.P o.toNat 4 (wl_q (g := 5) (by decide) hn hk) (ty := .object "RutWays$Land") rfl (v := jI (n : Int)) (by rfl) hd k
theorem r_alen6 (C : Cx p s m args meth c D b cc nL own ret) (hw : Hw D b μ H0 H locs) {o : Int} {n : Nat} {z : Int} (hk : isK o (60000 + n)) (hn : n < 10000) (hz : (n : Int) = z) (hd : decode cc pc = .ok (.arraylength, 1)) (k : W p l e R s m args below meth c H locs cells slots Q (F0 m (pc + 1) ls (.int (jI z) :: rest))) : W p l e R s m args below meth c H locs cells slots Q (F0 m (pc) ls (rfv b o :: rest)) := by
  subst hz
  rw [rfv_ref hk.1]
  exact va_alen C.1 C.2.1 C.2.2.2.2.2.1 hw.1.P o.toNat 5 (wl_q (g := 6) (by decide) hn hk) (ty := .object "RutWays$Course") rfl (v := jI (n : Int)) (by rfl) hd k
theorem r_alen7 (C : Cx p s m args meth c D b cc nL own ret) (hw : Hw D b μ H0 H locs) {o : Int} {n : Nat} {z : Int} (hk : isK o (70000 + n)) (hn : n < 10000) (hz : (n : Int) = z) (hd : decode cc pc = .ok (.arraylength, 1)) (k : W p l e R s m args below meth c H locs cells slots Q (F0 m (pc + 1) ls (.int (jI z) :: rest))) : W p l e R s m args below meth c H locs cells slots Q (F0 m (pc) ls (rfv b o :: rest)) := by
  subst hz
  rw [rfv_ref hk.1]
  exact va_alen C.1 C.2.1 C.2.2.2.2.2.1 hw.1.P o.toNat 6 (wl_q (g := 7) (by decide) hn hk) (ty := .object "RutWays$Tray") rfl (v := jI (n : Int)) (by rfl) hd k
end MEM
