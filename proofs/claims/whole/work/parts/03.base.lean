/-- the words that go through every call -/
def gT : List Cond := lw_tbl.filter goodWord
theorem gT_in {w : Cond} (h : w ∈ lw_tbl) (hg : goodWord w = true) : w ∈ gT := List.mem_filter.mpr ⟨h, hg⟩
theorem gT_good : ∀ w ∈ gT, w ∈ lw_tbl ∧ goodWord w = true := fun _ h => List.mem_filter.mp h
/-! numbers: every int is a whole number, read modulo 2^32 where the machine looks at it -/
def jI (z : Int) : Int32 := Int32.ofInt z
def jL (z : Int) : Int64 := Int64.ofInt z
def nrm (z : Int) : Int := (jI z).toInt
def nrl (z : Int) : Int := (jL z).toInt
theorem jI_nrm (z : Int) : jI (nrm z) = jI z := Int32.ofInt_toInt _
theorem jL_nrl (z : Int) : jL (nrl z) = jL z := Int64.ofInt_toInt _
theorem jI_to (x : Int32) : jI x.toInt = x := Int32.ofInt_toInt x
theorem jL_to (x : Int64) : jL x.toInt = x := Int64.ofInt_toInt x
theorem nrm_id {z : Int} (h1 : -2147483648 ≤ z) (h2 : z < 2147483648) : nrm z = z := Int32.toInt_ofInt_of_le h1 h2
theorem nrl_id {z : Int} (h1 : -9223372036854775808 ≤ z) (h2 : z < 9223372036854775808) : nrl z = z := Int64.toInt_ofInt_of_le h1 h2
theorem jI_inj {a b : Int} : jI a = jI b ↔ nrm a = nrm b := Int32.toInt_inj.symm
theorem jL_inj {a b : Int} : jL a = jL b ↔ nrl a = nrl b := Int64.toInt_inj.symm
theorem jI_lt {a b : Int} : jI a < jI b ↔ nrm a < nrm b := Int32.lt_iff_toInt_lt
theorem jI_le {a b : Int} : jI a ≤ jI b ↔ nrm a ≤ nrm b := Int32.le_iff_toInt_le
theorem jL_lt {a b : Int} : jL a < jL b ↔ nrl a < nrl b := Int64.lt_iff_toInt_lt
theorem jI_0 : (0 : Int32) = jI 0 := rfl
theorem nrm_0 : nrm 0 = 0 := rfl
theorem jI_lt0 {a : Int} : jI a < 0 ↔ nrm a < 0 := by rw [jI_0, jI_lt, nrm_0]
theorem jI_0le {a : Int} : 0 ≤ jI a ↔ 0 ≤ nrm a := by rw [jI_0, jI_le, nrm_0]
theorem jI_0lt {a : Int} : 0 < jI a ↔ 0 < nrm a := by rw [jI_0, jI_lt, nrm_0]
theorem jI_le0 {a : Int} : jI a ≤ 0 ↔ nrm a ≤ 0 := by rw [jI_0, jI_le, nrm_0]
theorem jI_eq0 {a : Int} : jI a = 0 ↔ nrm a = 0 := by rw [jI_0, jI_inj, nrm_0]
theorem jI_add (a b : Int) : jI a + jI b = jI (a + b) := (Int32.ofInt_add a b).symm
theorem jI_sub (a b : Int) : jI a - jI b = jI (a - b) := (Int32.ofInt_sub a b).symm
theorem jI_mul (a b : Int) : jI a * jI b = jI (a * b) := (Int32.ofInt_mul a b).symm
theorem jL_add (a b : Int) : jL a + jL b = jL (a + b) := (Int64.ofInt_add a b).symm
theorem jL_sub (a b : Int) : jL a - jL b = jL (a - b) := (Int64.ofInt_sub a b).symm
theorem jL_mul (a b : Int) : jL a * jL b = jL (a * b) := (Int64.ofInt_mul a b).symm
def jand (a b : Int) : Int := (jI a &&& jI b).toInt
def jor (a b : Int) : Int := (jI a ||| jI b).toInt
def jxor (a b : Int) : Int := (jI a ^^^ jI b).toInt
def jshl (a b : Int) : Int := (jI a <<< (jI b &&& 31)).toInt
def jshr (a b : Int) : Int := (jI a >>> (jI b &&& 31)).toInt
def jushr (a b : Int) : Int := ((jI a).toUInt32 >>> ((jI b).toUInt32 &&& Int32.toUInt32 31)).toInt32.toInt
def jdiv (a b : Int) : Int := (jI a / jI b).toInt
def jrem (a b : Int) : Int := (jI a - jI a / jI b * jI b).toInt
def kand (a b : Int) : Int := (jL a &&& jL b).toInt
def kor (a b : Int) : Int := (jL a ||| jL b).toInt
def kshl (a b : Int) : Int := (jL a <<< ((jI b).toInt64 &&& 63)).toInt
def kshr (a b : Int) : Int := (jL a >>> ((jI b).toInt64 &&& 63)).toInt
def kdiv (a b : Int) : Int := (jL a / jL b).toInt
def krem (a b : Int) : Int := (jL a - jL a / jL b * jL b).toInt
def kcmp (a b : Int) : Int := if nrl b < nrl a then 1 else if nrl a = nrl b then 0 else -1
def jb (a : Int) : Int := (jI a).toInt8.toInt32.toInt
def js (a : Int) : Int := (jI a).toInt16.toInt32.toInt
def jc (a : Int) : Int := ((jI a).toUInt32 % 65536).toInt32.toInt
/-! memory: a cell, a place in it -/
abbrev Mem : Type := Int → Int → Int
def ms (μ : Mem) (c i v : Int) : Mem := fun c' i' => if c' = c ∧ i' = i then v else μ c' i'
def gd {α : Type} (P : Prop) [Decidable P] (k : Option α) : Option α := if P then k else none
theorem gd_some {α : Type} {P : Prop} [Decidable P] {k : Option α} {x : α} (h : gd P k = some x) : P ∧ k = some x := by
  unfold gd at h
  by_cases hp : P
  · rw [if_pos hp] at h; exact ⟨hp, h⟩
  · rw [if_neg hp] at h; cases h
theorem gd_pos {α : Type} {P : Prop} [Decidable P] {k : Option α} (h : P) : gd P k = k := if_pos h
def nm {α β : Type} (x : α) (k : α → β) : β := k x
def bn {α β : Type} (o : Option (α × Mem)) (k : α → Mem → Option β) : Option β := match o with
  | none => none
  | some q => k q.1 q.2
theorem bn_some {α β : Type} {o : Option (α × Mem)} {k : α → Mem → Option β} {x : β} (h : bn o k = some x) : ∃ r μ, o = some (r, μ) ∧ k r μ = some x := by
  cases o with
  | none => cases h
  | some q => exact ⟨q.1, q.2, rfl, h⟩
theorem bn_eq {α β : Type} {o : Option (α × Mem)} {k : α → Mem → Option β} {r : α} {μ : Mem} (h : o = some (r, μ)) : bn o k = k r μ := by rw [h]; rfl
abbrev isB (z : Int) : Prop := nrm z = 0 ∨ nrm z = 1
theorem isB_nar {z : Int} (h : isB z) : narrow .boolean (.int (jI z)) = .int (jI z) ∧ fits .boolean (.int (jI z)) = true := by
  rcases h with h | h
  · rw [show jI z = 0 from (jI_eq0).mpr h]; exact ⟨by decide, by decide⟩
  · rw [show jI z = 1 from (jI_inj (b := 1)).mpr (h.trans (by decide))]; exact ⟨by decide, by decide⟩
/-! the cells: which kind each is; a class (below 100), or a row of so many (10000 ints, 20000 bytes, 30000 booleans, 40000 longs, 50000 Lands, 60000 Courses, 70000 Trays) -/
def kdLand : List Nat := [3, 10009, 10009, 10009, 10009, 10009, 10008, 4, 10900, 10002, 10002, 10006, 10064]
def kdL : List Nat := [11, 20900, 7, 9, 10901, 50004] ++ kdLand ++ kdLand ++ kdLand ++ kdLand ++ [0, 10009, 0, 10009, 2, 60010, 0, 10009, 0, 10009, 0, 10009, 0, 10009, 0, 10009, 0, 10009, 0, 10009, 0, 10009, 0, 10009, 0, 10009, 60002, 0, 10009, 0, 10009, 70004, 10, 40040, 10, 40040, 10, 40040, 10, 40040, 6, 10009, 10007, 8, 30063, 10063, 10009, 10007, 1, 10512, 5, 10007, 10007] ++ [12, 13300, 30002, 10900, 11100, 10900, 10006, 10013, 10007, 10006, 10007, 10007, 33584, 33584, 10056, 10004, 10004, 40160]
abbrev NC : Nat := 129
theorem kdL_len : kdL.length = NC := by decide +kernel
def kd (c : Int) : Nat := if c < 0 then 999 else kdL.getD c.toNat 999
abbrev isK (c : Int) (t : Nat) : Prop := 0 ≤ c ∧ kd c = t
theorem isK.lt {c : Int} {t : Nat} (h : isK c t) (ht : t ≠ 999) : c.toNat < NC := by
  obtain ⟨h0, h1⟩ := h
  unfold kd at h1
  rw [if_neg (by omega)] at h1
  rcases Nat.lt_or_ge c.toNat NC with q | q
  · exact q
  · rw [List.getD_eq_getElem?_getD, List.getElem?_eq_none (by rw [kdL_len]; exact q)] at h1
    exact absurd h1.symm ht
/-- of a class' fields: -1 a number, -3 a reference that changes, else how far behind the object what it has lies -/
def FT : List (List Int) := [[-3, -1, -1, -1, -1, 1], [1], [1, -1, -1], [-1, -1, -1, -1, -1, -1, -1, -1, 1, 2, 3, 4, 5, 6, 7], [1, -1, 2, 3, 4, 5, -1], [-3, -3, -1], [1, 2], [1, -3, -1, -1, -1, -1], [1, 2, 3, 4, -3, -3, -1], [-1, -1, -1, -3, -1, 1, -1, -1], [-1, -1, -1, 1], [1, -1, 2, -1, -1, 5, 58, 60, 62, 84, -1, 89, 98, 101, 106, 108], [-1, 1, 2, 3, 4, -1, -1, -1, -1, -1, -1, -1, -1, -1, -1, -1, 5, 6, 7, -1, -1, 8, 9, 10, -1, 11, 12, 13, 14, 15, 16, 17]]
def ftg (t j : Nat) : Int := (FT.getD t []).getD j (-1)
def nfd (t : Nat) : Nat := (FT.getD t []).length
def mg (μ : Mem) (k : Int) (j : Int) : Int := if kd k < 100 then (if 0 ≤ ftg (kd k) j.toNat then k + ftg (kd k) j.toNat else μ k j) else if 60000 ≤ kd k then k + 1 + 2 * j else if 50000 ≤ kd k then k + 1 + 13 * j else μ k j
def rfo (b : Nat) (v : Int) : Option Nat := if v < 0 then none else some (b + v.toNat)
def rfv (b : Nat) (v : Int) : Value := va_rf (rfo b v)
theorem rfv_ref {b : Nat} {v : Int} (h : 0 ≤ v) : rfv b v = .ref (b + v.toNat) := by
  unfold rfv rfo
  rw [if_neg (by omega)]; rfl
theorem rfv_null {b : Nat} {v : Int} (h : v < 0) : rfv b v = .null := by
  unfold rfv rfo
  rw [if_pos h]; rfl
def rval (b : Nat) (tag v : Int) : Value := if tag = -1 then .int (jI v) else rfv b v
abbrev Ds : Type := va_G × (Nat → ClassId) × (Nat → Nat) × (Nat → Nat)
def rfs (b t : Nat) (row : Int → Int) : List Value := (List.range (nfd t)).map fun j => rval b (ftg t j) (row j)
def rent (D : Ds) (b t : Nat) (row : Int → Int) : va_E :=
  if t < 100 then .inr (t, rfs b t row)
  else if t < 40000 then .inl (D.2.1 (t / 10000 - 1), t % 10000, .inl fun j => jI (row j))
  else if t < 50000 then .inl (D.2.1 3, t % 10000, .inr (.inl fun j => jL (row j)))
  else .inl (D.2.1 (t / 10000 - 1), t % 10000, .inr (.inr (.inr (.inr fun j => rfo b (row j)))))
abbrev vw : List vw_C := [(RX0, TX0, 6), (RX1, TX1, 1), (RX2, TX2, 3), (RX3, TX3, 15), (RX4, TX4, 7), (RX5, TX5, 3), (RX6, TX6, 2), (RX7, TX7, 6), (RX8, TX8, 7), (RX9, TX9, 8), (RX10, TX10, 4), (RX11, TX11, 16), (RX12, TX12, 32)]
def tysD (D : Ds) : List (ClassId × FieldType) := [(D.2.1 0, .int), (D.2.1 1, .byte), (D.2.1 2, .boolean), (D.2.1 3, .long), (D.2.1 4, .object "RutWays$Land"), (D.2.1 5, .object "RutWays$Course"), (D.2.1 6, .object "RutWays$Tray")]
/-- the heap holds, from b on, n cells of the kinds sh with the contents ν -/
def Gw (D : Ds) (b n : Nat) (sh : Int → Nat) (ν : Mem) (H : Heap) : Prop := ∀ k : Nat, k < n → va_at D.1 vw (b + k, rent D b (sh k) (ν k)) H
def wl (D : Ds) (b n : Nat) (sh : Int → Nat) (ν : Mem) : va_W := (List.range n).map fun k => (b + k, rent D b (sh k) (ν k))
theorem wl_at {D : Ds} {b n : Nat} {sh : Int → Nat} {ν : Mem} {k : Nat} (h : k < n) : (wl D b n sh ν)[k]? = some (b + k, rent D b (sh k) (ν k)) := by
  simp [wl, List.getElem?_map, List.getElem?_range h]
theorem wl_len {D : Ds} {b n : Nat} {sh : Int → Nat} {ν : Mem} : (wl D b n sh ν).length = n := by simp [wl]
theorem wl_inv {D : Ds} {b n : Nat} {sh : Int → Nat} {ν : Mem} {k : Nat} {q : Nat × va_E} (h : (wl D b n sh ν)[k]? = some q) : k < n ∧ q = (b + k, rent D b (sh k) (ν k)) := by
  have hk : k < n := by have := (List.getElem?_eq_some_iff.mp h).1; rwa [wl_len] at this
  rw [wl_at hk] at h
  exact ⟨hk, (Option.some.inj h).symm⟩
theorem Gw.P {D : Ds} {b n : Nat} {sh : Int → Nat} {ν : Mem} {H : Heap} (h : Gw D b n sh ν H) : va_P D.1 vw (wl D b n sh ν) H := fun k q hq => by
  obtain ⟨hk, rfl⟩ := wl_inv hq
  exact h k hk
def Ab (b n : Nat) : Nat → Prop := fun q => b ≤ q ∧ q < b + n
theorem wl_D {D : Ds} {b n : Nat} {sh : Int → Nat} {ν : Mem} {A : Nat → Prop} (hA : ∀ q, Ab b n q → A q) : va_D A (wl D b n sh ν) := by
  refine ⟨fun i j p q hp hq e => ?_, fun k q hq => ?_⟩
  · obtain ⟨h1, rfl⟩ := wl_inv hp
    obtain ⟨h2, rfl⟩ := wl_inv hq
    dsimp only at e; omega
  · obtain ⟨h1, rfl⟩ := wl_inv hq
    exact hA _ ⟨Nat.le_add_right _ _, by dsimp only; omega⟩
theorem Gw.of {D : Ds} {b n : Nat} {sh : Int → Nat} {ν ν' : Mem} {H : Heap} {k : Nat} {x : va_E} (hk : k < n) (h : va_P D.1 vw ((wl D b n sh ν).set k (b + k, x)) H) (hx : x = rent D b (sh k) (ν' k)) (ho : ∀ j : Nat, j ≠ k → ν' (j : Int) = ν (j : Int)) : Gw D b n sh ν' H := by
  intro j hj
  by_cases e : j = k
  · subst e
    rw [← hx]
    exact h j _ (by rw [List.getElem?_set_self (by rw [wl_len]; exact hk)])
  · rw [ho j e]
    exact h j _ (by rw [List.getElem?_set_ne (Ne.symm e)]; exact wl_at hj)
/-! the texts that the classes name: 0 Tokens' words, 1 the signs, 2 the reference's keys -/
def txS : List String := ["land places lane depth soft risk cart at pull person turns back rain wears may if then else end not and or ", ";:+-*()[]=<>", " land places lane depth soft risk cart at pull person turns back rain wears may if then else end and or not "]
def cdS (k : Nat) : List Nat := (txS.getD k "").toList.map Char.toNat
def lenS : List Nat := [(cdS 0).length, (cdS 1).length, (cdS 2).length]
def bytS : List (List Int32) := [(cdS 0).map Int32.ofNat, (cdS 1).map Int32.ofNat, (cdS 2).map Int32.ofNat]
def StrOk (D : Ds) (b : Nat) (U : State) : Prop := vk_S 3 lenS bytS D.2.2.1 D.2.2.2 (Ab b NC) U U.heap ∧ vk_R "RutWays$Tokens" 75 (txS.getD 0 "") (D.2.2.1 0) U ∧ vk_R "RutWays$Tokens" 49 (txS.getD 1 "") (D.2.2.1 1) U ∧ vk_R "RutWaysModel" 80 (txS.getD 2 "") (D.2.2.1 2) U ∧ vk_R "RutWaysModel" 118 (txS.getD 1 "") (D.2.2.1 1) U ∧ va_Z "java/lang/String" "COMPACT_STRINGS" "Z" (.int (jI 1)) (Ab b NC) U U.heap ∧ va_Zq "jdk/internal/util/Preconditions" "SIOOBE_FORMATTER" "Ljava/util/function/BiFunction;" (Ab b NC) U U.heap
theorem StrOk.moved {D : Ds} {b : Nat} {s U : State} {H : Heap} {locs : List Loc} (h : StrOk D b s) (hS : va_S (Ab b NC) s.heap H locs) (hU : U.heap = H) (hW : s.WarmedH U.vm) : StrOk D b U := by
  obtain ⟨h1, h2, h3, h4, h5, h6, h7⟩ := h
  have hq : ∀ a : Nat, a < s.heap.size → ¬ Ab b NC a → U.heap[a]? = s.heap[a]? := by rw [hU]; exact hS.2.1
  exact ⟨(h1.kept hq).moved hW.alike, h2.warm hW, h3.warm hW, h4.warm hW, h5.warm hW, (h6.kept hq).moved hW.alike, (h7.kept hq).moved hW.alike⟩
theorem StrOk.same {D : Ds} {b : Nat} {U V : State} (h : StrOk D b U) (hh : V.heap = U.heap) (hv : V.vm = U.vm) : StrOk D b V := by
  obtain ⟨h1, h2, h3, h4, h5, h6, h7⟩ := h
  have ha : U.vm.Alike V.vm := by rw [hv]; exact Vm.Alike.refl _
  rw [← hh] at h1 h6 h7
  exact ⟨h1.moved ha, h2.same hv, h3.same hv, h4.same hv, h5.same hv, h6.moved ha, h7.moved ha⟩
/-! locals: places, kinds (0 an int, 1 a long, 2 a reference), numbers -/
def lvv (b : Nat) : Nat → Int → Value
  | 0, x => .int (jI x)
  | 1, x => .long (jL x)
  | 3, x => .ref x.toNat
  | _, x => rfv b x
theorem rfv_cat (b : Nat) (x : Int) : (rfv b x).category = 1 := by
  rcases Int.lt_or_le x 0 with h | h
  · rw [rfv_null h]; rfl
  · rw [rfv_ref h]; rfl
theorem lvv_cat (b t : Nat) (x : Int) : (lvv b t x).category = if t = 1 then 2 else 1 := by
  match t with
  | 0 => rfl
  | 1 => rfl
  | 2 => exact rfv_cat b x
  | 3 => rfl
  | t + 4 => rw [if_neg (by omega)]; exact rfv_cat b x
abbrev Lv : Type := List (Nat × Nat × Int)
def lvx (b : Nat) (L : Lv) : List (Nat × Value) := L.map fun q => (q.1, lvv b q.2.1 q.2.2)
def lvh (b : Nat) (ls : Array Slot) (nL : Nat) (L : Lv) : Prop := lv_has ls nL (lvx b L)
theorem lvh_at {b : Nat} {ls : Array Slot} {nL : Nat} {L : Lv} (h : lvh b ls nL L) (k : Nat) {i t : Nat} {x : Int} (hk : L[k]? = some (i, t, x)) : ls[i]? = some (.val (lvv b t x)) := lv_at h k (by unfold lvx; rw [List.getElem?_map, hk]; rfl)
theorem lvh_sub {b : Nat} {ls : Array Slot} {nL : Nat} {L L' : Lv} (h : lvh b ls nL L) (ks : List Nat) (hk : ks.filterMap (fun k => L[k]?) = L') : lvh b ls nL L' := by
  refine lv_sub h ks ?_
  subst hk
  unfold lv_pick lvx
  induction ks with
  | nil => rfl
  | cons k ks ih =>
    cases hq : L[k]? with
    | none => simp [List.filterMap_cons, hq, List.getElem?_map]; simpa [List.getElem?_map] using ih
    | some q => simp [List.filterMap_cons, hq, List.getElem?_map]; simpa [List.getElem?_map] using ih
theorem lvh_sz {b : Nat} {ls : Array Slot} {nL : Nat} {L : Lv} (h : lvh b ls nL L) : ls.size = nL := h.1
def lvp (i : Nat) (L : Lv) : Lv := L.filter fun q => !(q.1 == i) && !(q.1 + 1 == i && q.2.1 == 1)
def lvp2 (i : Nat) (L : Lv) : Lv := L.filter fun q => !(q.1 == i) && (!(q.1 == i + 1) && !(q.1 + 1 == i && q.2.1 == 1))
theorem cat2 (b t : Nat) (x : Int) : ((lvv b t x).category == 2) = (t == 1) := by
  rw [lvv_cat]
  by_cases h : t = 1
  · subst h; rfl
  · rw [if_neg h]; simp [h]
theorem lvx_p (b i t : Nat) (x : Int) (L : Lv) : (i, lvv b t x) :: (lvx b L).filter (fun q => !(q.1 == i) && !(q.1 + 1 == i && q.2.category == 2)) = lvx b ((i, t, x) :: lvp i L) := by
  unfold lvx lvp
  rw [List.map_cons, List.filter_map]
  congr 2
  apply List.filter_congr
  intro q _
  simp only [Function.comp, cat2]
theorem lvx_p2 (b i t : Nat) (x : Int) (L : Lv) : (i, lvv b t x) :: (lvx b L).filter (fun q => !(q.1 == i) && (!(q.1 == i + 1) && !(q.1 + 1 == i && q.2.category == 2))) = lvx b ((i, t, x) :: lvp2 i L) := by
  unfold lvx lvp2
  rw [List.map_cons, List.filter_map]
  congr 2
  apply List.filter_congr
  intro q _
  simp only [Function.comp, cat2]
abbrev Av : Type := List (Nat × Int)
abbrev vls (b : Nat) (K : Av) : List Value := K.map fun q => lvv b q.1 q.2
def lva : Nat → Av → Lv
  | _, [] => []
  | i, q :: K => (i, q.1, q.2) :: lva (if q.1 = 1 then i + 2 else i + 1) K
theorem lva_eq (b : Nat) : ∀ (K : Av) (i : Nat), lv_args i (vls b K) = lvx b (lva i K)
  | [], _ => rfl
  | q :: K, i => by
    show (i, lvv b q.1 q.2) :: lv_args (if (lvv b q.1 q.2).category = 2 then i + 2 else i + 1) (vls b K) = (i, lvv b q.1 q.2) :: lvx b (lva (if q.1 = 1 then i + 2 else i + 1) K)
    rw [lvv_cat]
    by_cases h : q.1 = 1
    · rw [if_pos h, if_pos rfl, if_pos h, lva_eq b K]
    · rw [if_neg h, if_neg (by decide), if_neg h, lva_eq b K]
def lsz : Av → Nat
  | [] => 0
  | q :: K => (if q.1 = 1 then 2 else 1) + lsz K
theorem lsz_eq (b : Nat) : ∀ K : Av, (lg_sl (vls b K)).length = lsz K
  | [] => rfl
  | q :: K => by
    have ih := lsz_eq b K
    unfold lg_sl at ih ⊢
    show ((if (lvv b q.1 q.2).category = 2 then [Slot.val (lvv b q.1 q.2), .second] else [.val (lvv b q.1 q.2)]) ++ (vls b K).flatMap _).length = _
    rw [List.length_append, ih, lvv_cat]
    by_cases h : q.1 = 1
    · simp [h, lsz]
    · simp [h, lsz]
