/-- the words that go through every call -/
def gT : List Cond := lw_tbl.filter goodWord
theorem gT_in {w : Cond} (h : w ∈ lw_tbl) (hg : goodWord w = true) : w ∈ gT := List.mem_filter.mpr ⟨h, hg⟩
theorem gT_good : ∀ w ∈ gT, w ∈ lw_tbl ∧ goodWord w = true := fun _ h => List.mem_filter.mp h
/-! numbers: every int is a whole number, read modulo 2^32 where the machine looks at it -/
def jI (z : Int) : Int32 := Int32.ofInt z
def jL (z : Int) : Int64 := Int64.ofInt z
def nrm (z : Int) : Int := (jI z).toInt
def nrl (z : Int) : Int := (jL z).toInt
theorem jI_nrm (z : Int) : jI (nrm z) = jI z := Int32.ofInt_toInt _
theorem jL_nrl (z : Int) : jL (nrl z) = jL z := Int64.ofInt_toInt _
theorem jI_to (x : Int32) : jI x.toInt = x := Int32.ofInt_toInt x
theorem jL_to (x : Int64) : jL x.toInt = x := Int64.ofInt_toInt x
theorem nrm_id {z : Int} (h1 : -2147483648 ≤ z) (h2 : z < 2147483648) : nrm z = z := Int32.toInt_ofInt_of_le h1 h2
theorem nrl_id {z : Int} (h1 : -9223372036854775808 ≤ z) (h2 : z < 9223372036854775808) : nrl z = z := Int64.toInt_ofInt_of_le h1 h2
theorem jI_inj {a b : Int} : jI a = jI b ↔ nrm a = nrm b := Int32.toInt_inj.symm
theorem jL_inj {a b : Int} : jL a = jL b ↔ nrl a = nrl b := Int64.toInt_inj.symm
theorem jI_lt {a b : Int} : jI a < jI b ↔ nrm a < nrm b := Int32.lt_iff_toInt_lt
theorem jI_le {a b : Int} : jI a ≤ jI b ↔ nrm a ≤ nrm b := Int32.le_iff_toInt_le
theorem jL_lt {a b : Int} : jL a < jL b ↔ nrl a < nrl b := Int64.lt_iff_toInt_lt
theorem jI_0 : (0 : Int32) = jI 0 := rfl
theorem nrm_0 : nrm 0 = 0 := rfl
theorem jI_lt0 {a : Int} : jI a < 0 ↔ nrm a < 0 := by rw [jI_0, jI_lt, nrm_0]
theorem jI_0le {a : Int} : 0 ≤ jI a ↔ 0 ≤ nrm a := by rw [jI_0, jI_le, nrm_0]
theorem jI_0lt {a : Int} : 0 < jI a ↔ 0 < nrm a := by rw [jI_0, jI_lt, nrm_0]
theorem jI_le0 {a : Int} : jI a ≤ 0 ↔ nrm a ≤ 0 := by rw [jI_0, jI_le, nrm_0]
theorem jI_eq0 {a : Int} : jI a = 0 ↔ nrm a = 0 := by rw [jI_0, jI_inj, nrm_0]
theorem jI_add (a b : Int) : jI a + jI b = jI (a + b) := (Int32.ofInt_add a b).symm
theorem jI_sub (a b : Int) : jI a - jI b = jI (a - b) := (Int32.ofInt_sub a b).symm
theorem jI_mul (a b : Int) : jI a * jI b = jI (a * b) := (Int32.ofInt_mul a b).symm
theorem jL_add (a b : Int) : jL a + jL b = jL (a + b) := (Int64.ofInt_add a b).symm
theorem jL_sub (a b : Int) : jL a - jL b = jL (a - b) := (Int64.ofInt_sub a b).symm
theorem jL_mul (a b : Int) : jL a * jL b = jL (a * b) := (Int64.ofInt_mul a b).symm
def jand (a b : Int) : Int := (jI a &&& jI b).toInt
def jor (a b : Int) : Int := (jI a ||| jI b).toInt
def jxor (a b : Int) : Int := (jI a ^^^ jI b).toInt
def jshl (a b : Int) : Int := (jI a <<< (jI b &&& 31)).toInt
def jshr (a b : Int) : Int := (jI a >>> (jI b &&& 31)).toInt
def jushr (a b : Int) : Int := ((jI a).toUInt32 >>> ((jI b).toUInt32 &&& Int32.toUInt32 31)).toInt32.toInt
def jdiv (a b : Int) : Int := (jI a / jI b).toInt
def jrem (a b : Int) : Int := (jI a - jI a / jI b * jI b).toInt
def kand (a b : Int) : Int := (jL a &&& jL b).toInt
def kor (a b : Int) : Int := (jL a ||| jL b).toInt
def kshl (a b : Int) : Int := (jL a <<< ((jI b).toInt64 &&& 63)).toInt
def kshr (a b : Int) : Int := (jL a >>> ((jI b).toInt64 &&& 63)).toInt
def kdiv (a b : Int) : Int := (jL a / jL b).toInt
def krem (a b : Int) : Int := (jL a - jL a / jL b * jL b).toInt
def kcmp (a b : Int) : Int := if nrl b < nrl a then 1 else if nrl a = nrl b then 0 else -1
def jb (a : Int) : Int := (jI a).toInt8.toInt32.toInt
def js (a : Int) : Int := (jI a).toInt16.toInt32.toInt
def jc (a : Int) : Int := ((jI a).toUInt32 % 65536).toInt32.toInt
/-! memory: a cell, a place in it -/
abbrev Mem : Type := Int → Int → Int
def ms (μ : Mem) (c i v : Int) : Mem := fun c' i' => if c' = c ∧ i' = i then v else μ c' i'
def gd {α : Type} (P : Prop) [Decidable P] (k : Option α) : Option α := if P then k else none
theorem gd_some {α : Type} {P : Prop} [Decidable P] {k : Option α} {x : α} (h : gd P k = some x) : P ∧ k = some x := by
  unfold gd at h
  by_cases hp : P
  · rw [if_pos hp] at h; exact ⟨hp, h⟩
  · rw [if_neg hp] at h; cases h
theorem gd_pos {α : Type} {P : Prop} [Decidable P] {k : Option α} (h : P) : gd P k = k := if_pos h
def nm {α β : Type} (x : α) (k : α → β) : β := k x
def bn {α β : Type} (o : Option (α × Mem)) (k : α → Mem → Option β) : Option β := match o with
  | none => none
  | some q => k q.1 q.2
theorem bn_some {α β : Type} {o : Option (α × Mem)} {k : α → Mem → Option β} {x : β} (h : bn o k = some x) : ∃ r μ, o = some (r, μ) ∧ k r μ = some x := by
  cases o with
  | none => cases h
  | some q => exact ⟨q.1, q.2, rfl, h⟩
theorem bn_eq {α β : Type} {o : Option (α × Mem)} {k : α → Mem → Option β} {r : α} {μ : Mem} (h : o = some (r, μ)) : bn o k = k r μ := by rw [h]; rfl
def isB (z : Int) : Prop := nrm z = 0 ∨ nrm z = 1
theorem isB_nar {z : Int} (h : isB z) : narrow .boolean (.int (jI z)) = .int (jI z) ∧ fits .boolean (.int (jI z)) = true := by
  rcases h with h | h
  · rw [show jI z = 0 from (jI_eq0).mpr h]; exact ⟨by decide, by decide⟩
  · rw [show jI z = 1 from (jI_inj (b := 1)).mpr (h.trans (by decide))]; exact ⟨by decide, by decide⟩
/-! the cells: which kind each is; a class (below 100), or a row of so many (10000 ints, 20000 bytes, 30000 booleans, 40000 longs, 50000 Lands, 60000 Courses, 70000 Trays) -/
def kdLand : List Nat := [3, 10009, 10009, 10009, 10009, 10009, 10008, 4, 10900, 10002, 10002, 10006, 10064]
def kdL : List Nat := [11, 20900, 7, 9, 10901, 50004] ++ kdLand ++ kdLand ++ kdLand ++ kdLand ++ [0, 10009, 0, 10009, 2, 60010, 0, 10009, 0, 10009, 0, 10009, 0, 10009, 0, 10009, 0, 10009, 0, 10009, 0, 10009, 0, 10009, 0, 10009, 60002, 0, 10009, 0, 10009, 70004, 10, 40040, 10, 40040, 10, 40040, 10, 40040, 6, 10009, 10007, 8, 30063, 10063, 10009, 10007, 1, 10512, 5, 10007, 10007] ++ [12, 13300, 30002, 10900, 11100, 10900, 10006, 10013, 10007, 10006, 10007, 10007, 33584, 33584, 10056, 10004, 10004, 40160]
abbrev NC : Nat := 129
theorem kdL_len : kdL.length = NC := by decide +kernel
def kd (c : Int) : Nat := if c < 0 then 999 else kdL.getD c.toNat 999
def isK (c : Int) (t : Nat) : Prop := 0 ≤ c ∧ kd c = t
theorem isK.lt {c : Int} {t : Nat} (h : isK c t) (ht : t ≠ 999) : c.toNat < NC := by
  obtain ⟨h0, h1⟩ := h
  unfold kd at h1
  rw [if_neg (by omega)] at h1
  rcases Nat.lt_or_ge c.toNat NC with q | q
  · exact q
  · rw [List.getD_eq_getElem?_getD, List.getElem?_eq_none (by rw [kdL_len]; exact q)] at h1
    exact absurd h1.symm ht
/-- of a class' fields: -1 a number, -3 a reference that changes, else how far behind the object what it has lies -/
def FT : List (List Int) := [[-3, -1, -1, -1, -1, 1], [1], [1, -1, -1], [-1, -1, -1, -1, -1, -1, -1, -1, 1, 2, 3, 4, 5, 6, 7], [1, -1, 2, 3, 4, 5, -1], [-3, -3, -1], [1, 2], [1, -3, -1, -1, -1, -1], [1, 2, 3, 4, -3, -3, -1], [-1, -1, -1, -3, -1, 1, -1, -1], [-1, -1, -1, 1], [1, -1, 2, -1, -1, 5, 58, 60, 62, 84, -1, 89, 98, 101, 106, 108], [-1, 1, 2, 3, 4, -1, -1, -1, -1, -1, -1, -1, -1, -1, -1, -1, 5, 6, 7, -1, -1, 8, 9, 10, -1, 11, 12, 13, 14, 15, 16, 17]]
def ftg (t j : Nat) : Int := (FT.getD t []).getD j (-1)
def nfd (t : Nat) : Nat := (FT.getD t []).length
def mg (μ : Mem) (k : Int) (j : Int) : Int := if kd k < 100 then (if 0 ≤ ftg (kd k) j.toNat then k + ftg (kd k) j.toNat else μ k j) else if 60000 ≤ kd k then k + 1 + 2 * j else if 50000 ≤ kd k then k + 1 + 13 * j else μ k j
def rfo (b : Nat) (v : Int) : Option Nat := if v < 0 then none else some (b + v.toNat)
def rfv (b : Nat) (v : Int) : Value := va_rf (rfo b v)
theorem rfv_ref {b : Nat} {v : Int} (h : 0 ≤ v) : rfv b v = .ref (b + v.toNat) := by
  unfold rfv rfo
  rw [if_neg (by omega)]; rfl
theorem rfv_null {b : Nat} {v : Int} (h : v < 0) : rfv b v = .null := by
  unfold rfv rfo
  rw [if_pos h]; rfl
def rval (b : Nat) (tag v : Int) : Value := if tag = -1 then .int (jI v) else rfv b v
abbrev Ds : Type := va_G × (Nat → ClassId)
def rfs (b t : Nat) (row : Int → Int) : List Value := (List.range (nfd t)).map fun j => rval b (ftg t j) (row j)
def rent (D : Ds) (b t : Nat) (row : Int → Int) : va_E :=
  if t < 100 then .inr (t, rfs b t row)
  else if t < 40000 then .inl (D.2 (t / 10000 - 1), t % 10000, .inl fun j => jI (row j))
  else if t < 50000 then .inl (D.2 3, t % 10000, .inr (.inl fun j => jL (row j)))
  else .inl (D.2 (t / 10000 - 1), t % 10000, .inr (.inr (.inr (.inr fun j => rfo b (row j)))))
abbrev vw : List vw_C := [(RX0, TX0, 6), (RX1, TX1, 1), (RX2, TX2, 3), (RX3, TX3, 15), (RX4, TX4, 7), (RX5, TX5, 3), (RX6, TX6, 2), (RX7, TX7, 6), (RX8, TX8, 7), (RX9, TX9, 8), (RX10, TX10, 4), (RX11, TX11, 16), (RX12, TX12, 32)]
def tysD (D : Ds) : List (ClassId × FieldType) := [(D.2 0, .int), (D.2 1, .byte), (D.2 2, .boolean), (D.2 3, .long), (D.2 4, .object "RutWays$Land"), (D.2 5, .object "RutWays$Course"), (D.2 6, .object "RutWays$Tray")]
/-- the heap holds, from b on, n cells of the kinds sh with the contents ν -/
def Gw (D : Ds) (b n : Nat) (sh : Int → Nat) (ν : Mem) (H : Heap) : Prop := ∀ k : Nat, k < n → va_at D.1 vw (b + k, rent D b (sh k) (ν k)) H
def wl (D : Ds) (b n : Nat) (sh : Int → Nat) (ν : Mem) : va_W := (List.range n).map fun k => (b + k, rent D b (sh k) (ν k))
theorem wl_at {D : Ds} {b n : Nat} {sh : Int → Nat} {ν : Mem} {k : Nat} (h : k < n) : (wl D b n sh ν)[k]? = some (b + k, rent D b (sh k) (ν k)) := by
  simp [wl, List.getElem?_map, List.getElem?_range h]
theorem wl_len {D : Ds} {b n : Nat} {sh : Int → Nat} {ν : Mem} : (wl D b n sh ν).length = n := by simp [wl]
theorem wl_inv {D : Ds} {b n : Nat} {sh : Int → Nat} {ν : Mem} {k : Nat} {q : Nat × va_E} (h : (wl D b n sh ν)[k]? = some q) : k < n ∧ q = (b + k, rent D b (sh k) (ν k)) := by
  have hk : k < n := by have := (List.getElem?_eq_some_iff.mp h).1; rwa [wl_len] at this
  rw [wl_at hk] at h
  exact ⟨hk, (Option.some.inj h).symm⟩
theorem Gw.P {D : Ds} {b n : Nat} {sh : Int → Nat} {ν : Mem} {H : Heap} (h : Gw D b n sh ν H) : va_P D.1 vw (wl D b n sh ν) H := fun k q hq => by
  obtain ⟨hk, rfl⟩ := wl_inv hq
  exact h k hk
def Ab (b n : Nat) : Nat → Prop := fun q => b ≤ q ∧ q < b + n
theorem wl_D {D : Ds} {b n : Nat} {sh : Int → Nat} {ν : Mem} {A : Nat → Prop} (hA : ∀ q, Ab b n q → A q) : va_D A (wl D b n sh ν) := by
  refine ⟨fun i j p q hp hq e => ?_, fun k q hq => ?_⟩
  · obtain ⟨h1, rfl⟩ := wl_inv hp
    obtain ⟨h2, rfl⟩ := wl_inv hq
    dsimp only at e; omega
  · obtain ⟨h1, rfl⟩ := wl_inv hq
    exact hA _ ⟨Nat.le_add_right _ _, by dsimp only; omega⟩
theorem Gw.of {D : Ds} {b n : Nat} {sh : Int → Nat} {ν ν' : Mem} {H : Heap} {k : Nat} {x : va_E} (hk : k < n) (h : va_P D.1 vw ((wl D b n sh ν).set k (b + k, x)) H) (hx : x = rent D b (sh k) (ν' k)) (ho : ∀ j : Nat, j ≠ k → ν' (j : Int) = ν (j : Int)) : Gw D b n sh ν' H := by
  intro j hj
  by_cases e : j = k
  · subst e
    rw [← hx]
    exact h j _ (by rw [List.getElem?_set_self (by rw [wl_len]; exact hk)])
  · rw [ho j e]
    exact h j _ (by rw [List.getElem?_set_ne (Ne.symm e)]; exact wl_at hj)
