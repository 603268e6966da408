theorem jand_b (x : Int) : 0 ≤ jand x 255 ∧ jand x 255 ≤ 255 := by
  unfold jand
  rw [← Int32.toInt_toBitVec, Int32.toBitVec_and, show (255 : Int) = ((255 : Nat) : Int) from rfl, jI_bv]
  generalize (jI x).toBitVec = b
  have e : (b &&& BitVec.ofNat 32 255).toNat = b.toNat &&& 255 := by
    rw [BitVec.toNat_and, BitVec.toNat_ofNat, Nat.mod_eq_of_lt (by omega)]
  have h : b.toNat &&& 255 ≤ 255 := Nat.and_le_right
  rw [bv_int (by rw [e]; omega), e]
  omega
theorem bn_as {o : Option (Int × Mem)} {f g : Int → Mem → Option (Int × Mem)} : bn (bn o f) g = bn o fun r μ => bn (f r μ) g := by
  cases o with
  | none => rfl
  | some x => rfl
theorem isA_115 : isA 115 1 := by decide +kernel
theorem aln_115 : aln 115 = 1100 := by decide +kernel
/-- The reference, as soon as it begins to read. -/
def refL (ρ : Mem) : Option (Int × Mem) := bn (f_X12_next 111 ρ) fun _ μ18 => (bn (f_X12_eats 111 0 μ18) fun r22 μ21 => (if nrm r22 = 0 then (bn (f_X12_fails 111 2 μ21) fun _ μ25 => f_X12_land_j66 111 μ25) else f_X12_land_j66 111 μ21))
theorem j66_eq (x : Mem) : f_X12_land_j66 111 x = bn (bn (f_X12_named 111 1 1 7 x) fun v ρ3 => (nm (ms ρ3 115 1 v) fun ρ4 => f_X12_closes 111 ρ4)) fun _ ρ => f_X12_land_w84 FU 111 ρ := by
  rw [bn_as]
  rfl
theorem ref_eq {ρ ρ5 : Mem} (h : (bn (f_X12_eats 111 0 ρ) fun r ρ1 => (if nrm r = 0 then (bn (f_X12_fails 111 2 ρ1) fun _ ρ2 => (bn (f_X12_named 111 1 1 7 ρ2) fun v ρ3 => (nm (ms ρ3 115 1 v) fun ρ4 => f_X12_closes 111 ρ4))) else (bn (f_X12_named 111 1 1 7 ρ1) fun v ρ3 => (nm (ms ρ3 115 1 v) fun ρ4 => f_X12_closes 111 ρ4)))) = some (0, ρ5)) :
    (bn (f_X12_eats 111 0 ρ) fun r22 μ21 => (if nrm r22 = 0 then (bn (f_X12_fails 111 2 μ21) fun _ μ25 => f_X12_land_j66 111 μ25) else f_X12_land_j66 111 μ21)) = f_X12_land_w84 FU 111 ρ5 := by
  have e : (bn (f_X12_eats 111 0 ρ) fun r22 μ21 => (if nrm r22 = 0 then (bn (f_X12_fails 111 2 μ21) fun _ μ25 => f_X12_land_j66 111 μ25) else f_X12_land_j66 111 μ21)) = bn (bn (f_X12_eats 111 0 ρ) fun r ρ1 => (if nrm r = 0 then (bn (f_X12_fails 111 2 ρ1) fun _ ρ2 => (bn (f_X12_named 111 1 1 7 ρ2) fun v ρ3 => (nm (ms ρ3 115 1 v) fun ρ4 => f_X12_closes 111 ρ4))) else (bn (f_X12_named 111 1 1 7 ρ1) fun v ρ3 => (nm (ms ρ3 115 1 v) fun ρ4 => f_X12_closes 111 ρ4)))) fun _ ρ => f_X12_land_w84 FU 111 ρ := by
    rw [bn_as]
    congr 1
    funext r x
    by_cases z : nrm r = 0
    · rw [if_pos z, if_pos z, bn_as]
      congr 1
      funext _ y
      exact j66_eq y
    · rw [if_neg z, if_neg z]
      exact j66_eq x
  rw [e, bn_eq h]
/-- A text is read alike. -/
theorem read_ok {La a : Int} {μ ρ : Mem} (hL : isL La) (a0 : 0 ≤ a) (a9 : a ≤ 900) (ht : ∀ i, 0 ≤ i → i < a → ρ 114 i = jand (μ 1 i) 255) (r8 : ρ 111 8 = a) (r7 : ρ 111 7 = 0) (r11 : ρ 111 11 = 0) (q1 : ρ 115 1 = 1) (q0 : ∀ i, 0 ≤ i → i < 1100 → i ≠ 1 → ρ 115 i = 0) :
    ∃ n T μ' ρ', f_X7_readInto 2 La 1 a μ = some (μ' 2 2, μ') ∧ refL ρ = f_X12_land_j111 111 ρ' ∧ (∀ c i, c ≠ 2 → c ≠ 3 → c ≠ 4 → ¬ (La ≤ c ∧ c ≤ La + 10) → μ' c i = μ c i) ∧ FY ρ ρ' ∧ Fin n T La μ' ρ' := by
  have hLo := hL
  unfold isL at hLo
  generalize hμa : ms (ms (ms μ 2 2 0) 2 3 (-1)) 2 1 La = μa
  have am : ∀ c i, c ≠ 2 → μa c i = μ c i := fun c i hc => by rw [← hμa, ms_nc hc, ms_nc hc, ms_nc hc]
  have a21 : μa 2 1 = La := by rw [← hμa, ms_eq]
  have a22 : μa 2 2 = 0 := by rw [← hμa, ms_ni (by decide), ms_ni (by decide), ms_eq]
  have a23 : μa 2 3 = -1 := by rw [← hμa, ms_ni (by decide), ms_eq]
  obtain ⟨μb, b1, b2, b3, b4, b5, b6, b7⟩ := empty_C (μ := μa) hL
  have b2' : ∀ i, μb 2 i = μa 2 i := fun i => b2 2 i (by omega)
  have hT : TX a (fun i => jand (μ 1 i) 255) := ⟨a0, a9, fun i _ _ => jand_b _⟩
  obtain ⟨μc, ρ4, a1, K, V, c1, c2, c3, c4, c5⟩ := begin_eq (μ := μb) (ρ := ρ) hT (fun i i0 i1 => by rw [b2 1 i (by omega), am 1 i (by decide)]) ⟨r8, ht⟩ r7 (by rw [b2']; exact a22) (by rw [b2']; exact a23)
  have q4 : ∀ i, ρ4 115 i = ρ 115 i := fun i => c4 115 i (by omega)
  have cm : ∀ c i, La ≤ c → c ≤ La + 10 → μc c i = μb c i := fun c i x y => c3 c i (by omega) (by omega)
  have hD : LD La μc (ρ4 115) 0 := by
    refine LD_0 (by rw [q4]; exact q1) (fun i i0 i1 i2 => by rw [q4]; exact q0 i i0 i1 i2) (by rw [cm La 0 (by omega) (by omega)]; exact b3) (fun i i1 i7 => by rw [cm La i (by omega) (by omega)]; exact b4 i i1 i7) (fun l l0 l1 => ?_) (by rw [cm (La + 7) 1 (by omega) (by omega)]; exact b6) (fun w w0 w1 => ?_)
    · rw [cm (La + 3) l (by omega) (by omega), cm (La + 4) l (by omega) (by omega), cm (La + 5) l (by omega) (by omega)]
      exact b5 l l0 l1
    · rw [cm (La + 9) w (by omega) (by omega), cm (La + 10) w (by omega) (by omega)]
      exact b7 w w0 w1
  have hS : LnS a (fun i => jand (μ 1 i) 255) La μc ρ4 a1 K V 0 := ⟨⟨c5, by rw [c4 111 11 (by decide)]; exact r11, by rw [c3 2 1 (by decide) (by decide), b2']; exact a21, hL⟩, hD, c5.2.2.1.1⟩
  obtain ⟨r, μd, ρ5, l1, l2, l3, l4, l5⟩ := places_ok hS (by rw [q4]; exact q0 2 (by decide) (by decide) (by decide)) (by rw [q4]; exact q0 55 (by decide) (by decide) (by decide))
  have fin : ∃ μ' ρ', f_X7_readInto_w49 FU 2 r 0 μd = some (μ' 2 2, μ') ∧ f_X12_land_w84 FU 111 ρ5 = f_X12_land_j111 111 ρ' ∧ FZ La μd μ' ∧ FY ρ5 ρ' ∧ Fin a (fun i => jand (μ 1 i) 255) La μ' ρ' := by
    rcases l5 with ⟨rfl, a', K', V', N', w1, w2⟩ | ⟨rfl, hb⟩
    · have a0' := w2.1.1.2.2.1.1
      exact lines_w 900 FU FU 0 a' K' V' N' μd ρ5 (by omega) (by decide) (by decide) (by decide) a0' w2
    · exact ⟨μd, ρ5, lines_no (fu := 9999), land_no (fr := 9999) hb.1 hb.2.1, FZ_rf, FY_rf, .inr hb⟩
  obtain ⟨μ', ρ', f1, f2, f3, f4, f5⟩ := fin
  refine ⟨a, _, μ', ρ', ?_, ?_, ?_, FY_tr (fun c i e1 e2 => c4 c i (by omega)) (FY_tr l4 f4), f5⟩
  · unfold f_X7_readInto
    rw [nm_eq, nm_eq, nm_eq, hμa, a21, if_neg (by omega), gd_pos (isL_k hL), bn_eq b1, show (2 + 1 : Int) = 3 from rfl, bn_eq c1, bn_eq l1]
    exact f1
  · unfold refL
    rw [bn_eq c2, ref_eq l2]
    exact f2
  · intro c i x2 x3 x4 xL
    rw [f3 c i x2 x3 xL, l3 c i x2 x3 xL, c3 c i x3 x4, b2 c i xL, am c i x2]
