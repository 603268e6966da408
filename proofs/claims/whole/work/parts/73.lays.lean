def eM (A w : Int → Int) : Nat → Int → List Edge
  | 0, _ => []
  | d + 1, l => (if w l = -1 then [] else [(w l, A (11 + l), A (20 + l)), (w l, A (20 + l), A (11 + l))]) ++ eM A w d (l + 1)
theorem eM_s (A w : Int → Int) (d : Nat) (l : Int) : eM A w (d + 1) l = (if w l = -1 then [] else [(w l, A (11 + l), A (20 + l)), (w l, A (20 + l), A (11 + l))]) ++ eM A w d (l + 1) := rfl
theorem eM_in {A w : Int → Int} : ∀ (d : Nat) (l : Int), 0 ≤ l → l + d = A 2 → ∀ e ∈ eM A w d l, EdG A w e
  | 0, _, _, _, e, h => by cases h
  | d + 1, l, l0, ld, e, h => by
    unfold eM at h
    rcases List.mem_append.mp h with q | q
    · by_cases z : w l = -1
      · rw [if_pos z] at q; cases q
      · rw [if_neg z] at q
        rcases List.mem_cons.mp q with q | q
        · subst q; exact ⟨l, l0, by omega, z, rfl, .inl ⟨rfl, rfl⟩⟩
        · rw [List.mem_singleton] at q
          subst q; exact ⟨l, l0, by omega, z, rfl, .inr ⟨rfl, rfl⟩⟩
    · exact eM_in d (l + 1) (by omega) (by omega) e q
theorem eM_all {A w : Int → Int} : ∀ (d : Nat) (l k : Int), l ≤ k → k < l + d → w k ≠ -1 → (w k, A (20 + k), A (11 + k)) ∈ eM A w d l ∧ (w k, A (11 + k), A (20 + k)) ∈ eM A w d l
  | 0, l, k, h1, h2, _ => by omega
  | d + 1, l, k, h1, h2, h3 => by
    unfold eM
    by_cases e : k = l
    · subst e
      rw [if_neg h3]
      exact ⟨List.mem_append_left _ (List.mem_cons_of_mem _ (List.mem_cons_self ..)), List.mem_append_left _ (List.mem_cons_self ..)⟩
    · obtain ⟨a, b⟩ := eM_all d (l + 1) k (by omega) (by omega) h3
      exact ⟨List.mem_append_right _ a, List.mem_append_right _ b⟩
theorem eM_full {A w : Int → Int} (h0 : 0 ≤ A 2) : ∀ e, EdG A w e → e ∈ eM A w (A 2).toNat 0 := by
  intro ⟨v, x, y⟩ ⟨l, l0, l1, h1, h2, h3⟩
  obtain ⟨a, b⟩ := eM_all (A := A) (w := w) (A 2).toNat 0 l l0 (by omega) h1
  dsimp only at h2 h3
  rcases h3 with ⟨x1, x2⟩ | ⟨x1, x2⟩
  · rw [h2, x1, x2]; exact b
  · rw [h2, x1, x2]; exact a
/-- Whether a lane is open now (1). -/
def openM (A : Int → Int) (l : Int) : Int := mayM A l (A (56 + l)) (A 66) (A 65)
/-- The weight of a lane: 1, if it is in a set and open. -/
def wF (A : Int → Int) (set l : Int) : Int := if tb set l = true ∧ openM A l = 1 then 1 else -1
theorem wF_ok (A : Int → Int) (set : Int) : okW A (wF A set) := by
  intro l _ _
  unfold wF
  split
  · exact .inr (by decide)
  · exact .inl rfl
def b2i (b : Bool) : Int := if b then 1 else 0
theorem jor_b (p q : Bool) : jor (b2i p) (b2i q) = b2i (p || q) := by cases p <;> cases q <;> decide
theorem ms_row (ρ : Mem) (c b v : Int) : ms ρ c b v c = upF (ρ c) b v := by
  funext k
  unfold ms upF
  by_cases e : k = b
  · rw [if_pos ⟨rfl, e⟩, if_pos e]
  · rw [if_neg (fun q => e q.2), if_neg e]
theorem near_eq {a b : Int} {ρ : Mem} (a0 : 0 ≤ a) (a7 : a < 7) (b0 : 0 ≤ b) (b7 : b < 7) (hr : ∀ k, 0 ≤ k → k < 7 → 0 ≤ ρ 119 k ∧ ρ 119 k ≤ farI) :
    ∃ ρ', f_X12_nearer 111 a b ρ = some (b2i (decide (ρ 119 a ≠ farI ∧ ρ 119 a + 1 < ρ 119 b)), ρ') ∧ ρ' 119 = rlx (ρ 119) (1, a, b) ∧ (∀ c i, c ≠ 119 → ρ' c i = ρ c i) := by
  have ha := hr a a0 a7
  have hb := hr b b0 b7
  have hf : farI = 268435456 := rfl
  unfold f_X12_nearer rlx
  dsimp only
  rw [nrm_id (z := a) (by omega) (by omega), nrm_id (z := b) (by omega) (by omega), gd_pos ⟨a0, a7⟩, show (111 + 8 : Int) = 119 from rfl, nrm_id (z := ρ 119 a) (by omega) (by omega), nrm_id (z := ρ 119 b) (by omega) (by omega), nrm_id (z := ρ 119 a + 1) (by omega) (by omega), show nrm 268435456 = farI from rfl, gd_pos ⟨b0, b7⟩, gd_pos ⟨a0, a7⟩, gd_pos ⟨a0, a7⟩, gd_pos ⟨b0, b7⟩, nm_eq]
  by_cases z : ρ 119 a = farI
  · rw [if_pos z, if_neg (fun q => q.1 z), decide_eq_false (fun q => q.1 z)]
    exact ⟨ρ, rfl, rfl, fun _ _ _ => rfl⟩
  · rw [if_neg z]
    by_cases y : ρ 119 a + 1 < ρ 119 b
    · rw [if_pos y, if_pos ⟨z, y⟩, decide_eq_true ⟨z, y⟩]
      exact ⟨_, rfl, ms_row _ _ _ _, fun c i h => ms_nc h⟩
    · rw [if_neg y, if_neg (fun q => y q.2), decide_eq_false (fun q => y q.2)]
      exact ⟨ρ, rfl, rfl, fun _ _ _ => rfl⟩
def Sc119 (ρ ρ' : Mem) : Prop := ∀ c i, c ≠ 116 → c ≠ 117 → c ≠ 119 → ρ' c i = ρ c i
theorem Sc119_sa {ρ ρ' : Mem} (h : Sc119 ρ ρ') : SaR ρ ρ' := by
  intro c i e
  unfold EssR at e
  exact h c i (by omega) (by omega) (by omega)
theorem lays_l {set g : Int} {μ : Mem} {A : Int → Int} {K : Int → Int → Int → Mem → Option (Int × Mem)} (s0 : 0 ≤ set) (s1 : set < 512) (g0 : 0 ≤ g) (g7 : g < 7) :
    ∀ (d n : Nat) (l : Int) (m : Bool) (ρ : Mem), rowA ρ 0 = A → 0 ≤ l → l + d = A 2 → d < n → JR μ 58 ρ → JF (EdG A (wF A set)) g (ρ 119) →
    ∃ ρ', f_X12_laysFar_w48 K n 111 set (b2i m) l ρ = K 111 set (b2i (m || chg (eM A (wF A set) d l) (ρ 119))) ρ' ∧ ρ' 119 = runR (eM A (wF A set) d l) (ρ 119) ∧ Sc119 ρ ρ' := by
  intro d
  induction d with
  | zero =>
    intro n l m ρ hA l0 ld hn j hJ
    obtain ⟨n, rfl⟩ : ∃ q, n = q + 1 := ⟨n - 1, by omega⟩
    obtain ⟨_, _, _, ⟨L0, L9⟩, _⟩ := now_is j
    have e2 : ρ 112 2 = A 2 := by rw [← hA, rowA_0]
    refine ⟨ρ, ?_, rfl, fun _ _ _ _ _ => rfl⟩
    rw [f_X12_laysFar_w48, show (111 + 1 : Int) = 112 from rfl, nrm_id (z := ρ 112 2) (by omega) (by omega), nrm_id (z := l) (by omega) (by omega), if_pos (by omega)]
    show _ = K 111 set (b2i (m || false)) ρ
    rw [Bool.or_false]
  | succ d ih =>
    intro n l m ρ hA l0 ld hn j hJ
    obtain ⟨n, rfl⟩ : ∃ q, n = q + 1 := ⟨n - 1, by omega⟩
    obtain ⟨hL, hR, _, ⟨L0, L9⟩, _, ⟨K1, K7⟩, _⟩ := now_is j
    have e2 : ρ 112 2 = A 2 := by rw [← hA, rowA_0]
    have ok : okE (EdG A (wF A set)) := by
      have := EdG_ok hR (wF_ok (rowA ρ 0) set)
      rw [hA] at this
      exact this
    obtain ⟨_, _, _, _, _, g6, _⟩ := hR
    obtain ⟨_, a2, a3, _, b2, b3, _⟩ := g6 l l0 (by rw [rowA_0]; omega)
    simp only [rowA_0] at a2 a3 b2 b3
    have eA1 : ρ 112 (11 + l) = A (11 + l) := by rw [← hA, rowA_0]
    have eA2 : ρ 112 (20 + l) = A (20 + l) := by rw [← hA, rowA_0]
    obtain ⟨ρ2, p1, p2⟩ := isOpen_m j l0 (by omega : l < ρ 112 2)
    have hop : mayM (rowA ρ 0) l (ρ 112 (56 + l)) (ρ 112 66) (ρ 112 65) = openM A l := by
      unfold openM
      rw [← hA, rowA_0, rowA_0, rowA_0]
    rw [hop] at p1
    have row2 : ρ2 119 = ρ 119 := by
      funext i
      exact p2 119 i (by decide) (by decide)
    have hA2 : rowA ρ2 0 = A := by rw [rowA_co (ScW_sa p2)]; exact hA
    have op01 : openM A l = 0 ∨ openM A l = 1 := mayM_01 _ _ _ _ _
    have hskip : wF A set l = -1 → ∀ ρ2, Sc119 ρ ρ2 → ρ2 119 = ρ 119 → f_X12_laysFar_w48 K (n + 1) 111 set (b2i m) l ρ = f_X12_laysFar_w48 K n 111 set (b2i m) (l + 1) ρ2 →
        ∃ ρ', f_X12_laysFar_w48 K (n + 1) 111 set (b2i m) l ρ = K 111 set (b2i (m || chg (eM A (wF A set) (d + 1) l) (ρ 119))) ρ' ∧ ρ' 119 = runR (eM A (wF A set) (d + 1) l) (ρ 119) ∧ Sc119 ρ ρ' := by
      intro wz ρx sx rx ux
      obtain ⟨ρ', y1, y2, y3⟩ := ih n (l + 1) m ρx (by rw [rowA_co (Sc119_sa sx)]; exact hA) (by omega) (by omega) (by omega) (JR_sa (SaC_rfl μ) (Sc119_sa sx) j).1 (by rw [rx]; exact hJ)
      refine ⟨ρ', ?_, ?_, fun c i x1 x2 x3 => (y3 c i x1 x2 x3).trans (sx c i x1 x2 x3)⟩
      · rw [ux, y1, rx]
        rw [eM_s, if_pos wz]
        rfl
      · rw [y2, rx]
        rw [eM_s, if_pos wz]
        rfl
    by_cases t : tb set l = true
    · by_cases o : openM A l = 1
      · have wl : wF A set l = 1 := if_pos ⟨t, o⟩
        have E1 : EdG A (wF A set) (1, A (11 + l), A (20 + l)) := ⟨l, l0, by omega, by rw [wl]; decide, wl.symm, .inl ⟨rfl, rfl⟩⟩
        have E2 : EdG A (wF A set) (1, A (20 + l), A (11 + l)) := ⟨l, l0, by omega, by rw [wl]; decide, wl.symm, .inr ⟨rfl, rfl⟩⟩
        obtain ⟨ρ3, q1, q2, q3⟩ := near_eq (a := A (11 + l)) (b := A (20 + l)) (ρ := ρ2) (by omega) (by omega) (by omega) (by omega) (by rw [row2]; exact hJ.2.1)
        rw [row2] at q1 q2
        have hJ3 : JF (EdG A (wF A set)) g (ρ3 119) := by rw [q2]; exact rlx_JF ok g0 g7 E1 hJ
        obtain ⟨ρ4, r1, r2, r3⟩ := near_eq (a := A (20 + l)) (b := A (11 + l)) (ρ := ρ3) (by omega) (by omega) (by omega) (by omega) hJ3.2.1
        have hJ4 : JF (EdG A (wF A set)) g (ρ4 119) := by rw [r2]; exact rlx_JF ok g0 g7 E2 hJ3
        have s4 : Sc119 ρ ρ4 := fun c i x1 x2 x3 => by rw [r3 c i x3, q3 c i x3, p2 c i x1 x2]
        have z1 : ρ2 112 (11 + l) = A (11 + l) := by rw [p2 112 _ (by decide) (by decide)]; exact eA1
        have z2 : ρ2 112 (20 + l) = A (20 + l) := by rw [p2 112 _ (by decide) (by decide)]; exact eA2
        have z3 : ρ3 112 (11 + l) = A (11 + l) := by rw [q3 112 _ (by decide)]; exact z1
        have z4 : ρ3 112 (20 + l) = A (20 + l) := by rw [q3 112 _ (by decide)]; exact z2
        obtain ⟨ρ', y1, y2, y3⟩ := ih n (l + 1) (m || (decide (ρ 119 (A (11 + l)) ≠ farI ∧ ρ 119 (A (11 + l)) + 1 < ρ 119 (A (20 + l))) || decide (ρ3 119 (A (20 + l)) ≠ farI ∧ ρ3 119 (A (20 + l)) + 1 < ρ3 119 (A (11 + l))))) ρ4 (by rw [rowA_co (Sc119_sa s4)]; exact hA) (by omega) (by omega) (by omega) (JR_sa (SaC_rfl μ) (Sc119_sa s4) j).1 hJ4
        refine ⟨ρ', ?_, ?_, fun c i x1 x2 x3 => (y3 c i x1 x2 x3).trans (s4 c i x1 x2 x3)⟩
        · rw [f_X12_laysFar_w48, show (111 + 1 : Int) = 112 from rfl, nrm_id (z := ρ 112 2) (by omega) (by omega), nrm_id (z := l) (by omega) (by omega), if_neg (by omega), nrm_id (z := set) (by omega) (by omega), bn_eq (isIn_eq ρ s0 (by omega) l0 (by omega)), if_pos t, if_neg (by decide : ¬ nrm 1 = 0), bn_eq p1, o, if_neg (by decide : ¬ nrm 1 = 0), nrm_id (z := 11 + l) (by omega) (by omega), nrm_id (z := 20 + l) (by omega) (by omega), gd_pos (by omega), gd_pos (by omega), z1, z2, bn_eq q1, gd_pos (by omega), gd_pos (by omega), z3, z4, bn_eq r1, nm_eq, jor_b, jor_b]
          show f_X12_laysFar_w48 K n 111 set _ (l + 1) ρ4 = _
          rw [y1]
          rw [eM_s, wl, if_neg (by decide : ¬ (1 : Int) = -1), chg_app, r2, q2]
          show K 111 set (b2i ((m || (_ || _)) || _)) ρ' = K 111 set (b2i (m || ((_ || (_ || false)) || _))) ρ'
          rw [Bool.or_false, Bool.or_assoc]
          rfl
        · rw [y2]
          rw [eM_s, wl, if_neg (by decide : ¬ (1 : Int) = -1), runR_app, r2, q2]
          rfl
      · have o0 : openM A l = 0 := by omega
        refine hskip (if_neg (fun q => o q.2)) ρ2 (fun c i x1 x2 _ => p2 c i x1 x2) row2 ?_
        rw [f_X12_laysFar_w48, show (111 + 1 : Int) = 112 from rfl, nrm_id (z := ρ 112 2) (by omega) (by omega), nrm_id (z := l) (by omega) (by omega), if_neg (by omega), nrm_id (z := set) (by omega) (by omega), bn_eq (isIn_eq ρ s0 (by omega) l0 (by omega)), if_pos t, if_neg (by decide : ¬ nrm 1 = 0), bn_eq p1, o0, if_pos (by decide : nrm 0 = 0)]
        rfl
    · refine hskip (if_neg (fun q => t q.1)) ρ (fun _ _ _ _ _ => rfl) rfl ?_
      rw [f_X12_laysFar_w48, show (111 + 1 : Int) = 112 from rfl, nrm_id (z := ρ 112 2) (by omega) (by omega), nrm_id (z := l) (by omega) (by omega), if_neg (by omega), nrm_id (z := set) (by omega) (by omega), bn_eq (isIn_eq ρ s0 (by omega) l0 (by omega)), if_neg t, if_pos (by decide : nrm 0 = 0)]
      rfl
theorem lays_r {set g : Int} {μ : Mem} {A D : Int → Int} (s0 : 0 ≤ set) (s1 : set < 512) (g0 : 0 ≤ g) (g7 : g < 7) (hD : isD (EdG A (wF A set)) g D) :
    ∀ (d n : Nat) (r : Int) (ρ : Mem), rowA ρ 0 = A → 0 ≤ r → r + d = 7 → d + 1 < n → JR μ 58 ρ → JF (EdG A (wF A set)) g (ρ 119) → upTo D (ρ 119) r →
    ∃ ρ', f_X12_laysFar_w40 n 111 set 1 ρ = some (0, ρ') ∧ isD (EdG A (wF A set)) g (ρ' 119) ∧ Sc119 ρ ρ' := by
  intro d
  induction d with
  | zero =>
    intro n r ρ hA r0 rd hn j hJ hu
    obtain ⟨n, rfl⟩ : ∃ q, n = q + 1 := ⟨n - 1, by omega⟩
    obtain ⟨n, rfl⟩ : ∃ q, n = q + 1 := ⟨n - 1, by omega⟩
    obtain ⟨hL, hR, _, ⟨L0, L9⟩, _⟩ := now_is j
    have e2 : ρ 112 2 = A 2 := by rw [← hA, rowA_0]
    rw [e2] at L0 L9
    rw [hA] at hR
    have ok := EdG_ok hR (wF_ok A set)
    obtain ⟨ρ2, p1, p2, p3⟩ := lays_l (K := f_X12_laysFar_w40 (n + 1)) s0 s1 g0 g7 (A 2).toNat FU 0 false ρ hA (by decide) (by omega) (by unfold FU; omega) j hJ
    have e1 := eM_in (A := A) (w := wF A set) (A 2).toNat 0 (by decide) (by omega)
    have hc := chg_D ok g0 g7 hD hJ e1 (upTo_6 ok g0 g7 hD hJ (by omega) hu)
    refine ⟨ρ2, ?_, ?_, p3⟩
    · rw [f_X12_laysFar_w40, if_neg (by decide : ¬ nrm 1 = 0)]
      rw [hc] at p1
      rw [show (b2i false) = 0 from rfl] at p1
      rw [p1]
      rfl
    · rw [p2, (chg_f _ _ hc).1]
      exact isD_of hJ (eM_full L0) hc
  | succ d ih =>
    intro n r ρ hA r0 rd hn j hJ hu
    obtain ⟨n, rfl⟩ : ∃ q, n = q + 1 := ⟨n - 1, by omega⟩
    obtain ⟨hL, hR, _, ⟨L0, L9⟩, _⟩ := now_is j
    have e2 : ρ 112 2 = A 2 := by rw [← hA, rowA_0]
    rw [e2] at L0 L9
    rw [hA] at hR
    have ok := EdG_ok hR (wF_ok A set)
    obtain ⟨ρ2, p1, p2, p3⟩ := lays_l (K := f_X12_laysFar_w40 n) s0 s1 g0 g7 (A 2).toNat FU 0 false ρ hA (by decide) (by omega) (by unfold FU; omega) j hJ
    have e1 := eM_in (A := A) (w := wF A set) (A 2).toNat 0 (by decide) (by omega)
    have hu1 : f_X12_laysFar_w40 (n + 1) 111 set 1 ρ = f_X12_laysFar_w40 n 111 set (b2i (chg (eM A (wF A set) (A 2).toNat 0) (ρ 119))) ρ2 := by
      rw [f_X12_laysFar_w40, if_neg (by decide : ¬ nrm 1 = 0)]
      rw [show (b2i false) = 0 from rfl, Bool.false_or] at p1
      exact p1
    cases hc : chg (eM A (wF A set) (A 2).toNat 0) (ρ 119)
    · rw [hc] at hu1
      obtain ⟨n, rfl⟩ : ∃ q, n = q + 1 := ⟨n - 1, by omega⟩
      refine ⟨ρ2, by rw [hu1]; rfl, ?_, p3⟩
      rw [p2, (chg_f _ _ hc).1]
      exact isD_of hJ (eM_full L0) hc
    · rw [hc] at hu1
      obtain ⟨ρ3, q1, q2, q3⟩ := ih n (r + 1) ρ2 (by rw [rowA_co (Sc119_sa p3)]; exact hA) (by omega) (by omega) (by omega) (JR_sa (SaC_rfl μ) (Sc119_sa p3) j).1 (by rw [p2]; exact runR_JF ok g0 g7 _ _ e1 hJ) (by rw [p2]; exact upTo_s ok g0 g7 hD hJ e1 (eM_full L0) hu)
      exact ⟨ρ3, by rw [hu1]; exact q1, q2, fun c i x1 x2 x3 => (q3 c i x1 x2 x3).trans (p3 c i x1 x2 x3)⟩
theorem lays_0 {set c : Int} : ∀ (d k n : Nat) (ρ : Mem), k + d = 7 → d < n → ρ 112 55 = c → 0 ≤ c → c < 7 → (∀ i : Int, 0 ≤ i → i < k → ρ 119 i = if i = c then 0 else farI) →
    ∃ ρ', f_X12_laysFar_w2 n 111 set k ρ = f_X12_laysFar_w40 FU 111 set 1 ρ' ∧ (∀ i : Int, 0 ≤ i → i < 7 → ρ' 119 i = if i = c then 0 else farI) ∧ (∀ x i, x ≠ 119 → ρ' x i = ρ x i) := by
  intro d
  induction d with
  | zero =>
    intro k n ρ hk hn hc c0 c7 h
    obtain ⟨n, rfl⟩ : ∃ q, n = q + 1 := ⟨n - 1, by omega⟩
    obtain rfl : k = 7 := by omega
    refine ⟨ρ, ?_, h, fun _ _ _ => rfl⟩
    rw [f_X12_laysFar_w2, if_pos (by decide)]
  | succ d ih =>
    intro k n ρ hk hn hc c0 c7 h
    obtain ⟨n, rfl⟩ : ∃ q, n = q + 1 := ⟨n - 1, by omega⟩
    obtain ⟨ρ', y1, y2, y3⟩ := ih (k + 1) n (ms ρ 119 k (if (k : Int) = c then 0 else farI)) (by omega) (by omega) (by rw [ms_nc (by decide)]; exact hc) c0 c7 (by
      intro i i0 i1
      by_cases e : i = k
      · rw [e, ms_eq]
      · rw [ms_ni e]; exact h i i0 (by omega))
    refine ⟨ρ', ?_, y2, fun x i hx => by rw [y3 x i hx, ms_nc hx]⟩
    rw [f_X12_laysFar_w2, nrm_id (z := (k : Int)) (by omega) (by omega), if_neg (by show ¬ ((7 : Int) ≤ k); omega), show (111 + 1 : Int) = 112 from rfl, hc, nrm_id (z := c) (by omega) (by omega)]
    unfold f_X12_laysFar_j31
    rw [nrm_id (z := (k : Int)) (by omega) (by omega), show (111 + 8 : Int) = 119 from rfl]
    have hg : isA 119 1 ∧ 0 ≤ (k : Int) ∧ (k : Int) < aln 119 := ⟨by decide, by omega, by show (k : Int) < 7; omega⟩
    rw [gd_pos hg, gd_pos hg, nm_eq, nm_eq, ← y1]
    by_cases e : (k : Int) = c
    · rw [if_pos e, if_pos e]; rfl
    · rw [if_neg e, if_neg e]; rfl
/-- The reference's distances from the cart, by open lanes of a set. -/
theorem laysFar_eq {set : Int} {μ ρ : Mem} (s0 : 0 ≤ set) (s1 : set < 512) (j : JR μ 58 ρ) :
    ∃ ρ', f_X12_laysFar 111 set ρ = some (0, ρ') ∧ isD (EdG (rowA ρ 0) (wF (rowA ρ 0) set)) (ρ 112 55) (ρ' 119) ∧ Sc119 ρ ρ' := by
  obtain ⟨hL, hR, _, ⟨L0, L9⟩, _, ⟨K1, K7⟩, _, ⟨c1, c2, c3⟩, _⟩ := now_is j
  have ok := EdG_ok hR (wF_ok (rowA ρ 0) set)
  obtain ⟨ρ1, p1, p2, p3⟩ := lays_0 (set := set) (c := ρ 112 55) 7 0 FU ρ (by omega) (by unfold FU; omega) rfl c2 (by omega) (fun i _ i1 => absurd i1 (by omega))
  have sa : Sc119 ρ ρ1 := fun c i _ _ x3 => p3 c i x3
  have hJ : JF (EdG (rowA ρ 0) (wF (rowA ρ 0) set)) (ρ 112 55) (ρ1 119) := JF_0 c2 (by omega) p2
  obtain ⟨D, hD⟩ := D_ex ok c2 (by omega : ρ 112 55 < 7)
  obtain ⟨ρ2, q1, q2, q3⟩ := lays_r s0 s1 c2 (by omega : ρ 112 55 < 7) hD 7 FU 0 ρ1 (rowA_co (Sc119_sa sa) 0) (by decide) (by decide) (by unfold FU; omega) (JR_sa (SaC_rfl μ) (Sc119_sa sa) j).1 hJ (upTo_0 ok c2 (by omega) hD hJ)
  refine ⟨ρ2, ?_, q2, fun c i x1 x2 x3 => (q3 c i x1 x2 x3).trans (sa c i x1 x2 x3)⟩
  unfold f_X12_laysFar
  rw [show ((0 : Nat) : Int) = 0 from rfl] at p1
  rw [p1]
  exact q1
