theorem filM_in {may : Int → Int} {D : Int} (D0 : 0 ≤ D) : ∀ r : Nat, (r : Int) ≤ D + 1 → filM may D r = -1 ∨ (0 ≤ filM may D r ∧ filM may D r ≤ D)
  | 0, _ => .inl rfl
  | r + 1, h => by
    unfold filM
    by_cases e : may r = 0
    · rw [if_pos e]; exact filM_in D0 r (by omega)
    · rw [if_neg e]; exact .inr (by omega)
theorem fillM_in {μ ρ : Mem} {l : Int} (j : JR μ 58 ρ) (l0 : 0 ≤ l) (l1 : l < ρ 112 2) : fillM (rowA ρ 0) l = -1 ∨ (0 ≤ fillM (rowA ρ 0) l ∧ fillM (rowA ρ 0) l ≤ 6) := by
  obtain ⟨_, _, _, _, _, _, _, _, _, _, hd⟩ := now_is j
  obtain ⟨_, d2, d3⟩ := hd l l0 l1
  unfold fillM
  rw [rowA_0 ρ (56 + l)]
  rcases filM_in (may := fun d => mayM (rowA ρ 0) l d (rowA ρ 0 66) (rowA ρ 0 65)) d2 (ρ 112 (56 + l) + 1).toNat (by omega) with h | h
  · exact .inl h
  · exact .inr (by omega)
/-- The weights of both: so many fillings, one lane. -/
def wC (A : Int → Int) (l : Int) : Int := if fillM A l = -1 then -1 else 1000 * fillM A l + 1
def wK (A : Int → Int) (l : Int) : Int := if fillM A l = -1 then -1 else fillM A l * 16 + 1
def fillOk (A : Int → Int) : Prop := ∀ l, 0 ≤ l → l < A 2 → fillM A l = -1 ∨ (0 ≤ fillM A l ∧ fillM A l ≤ 6)
theorem wC_ok {A : Int → Int} (h : fillOk A) : okW A (wC A) := by
  intro l l0 l1
  unfold wC
  rcases h l l0 l1 with e | e
  · rw [if_pos e]; exact .inl rfl
  · rw [if_neg (by omega)]; exact .inr (by omega)
theorem wK_ok {A : Int → Int} (h : fillOk A) : okW A (wK A) := by
  intro l l0 l1
  unfold wK
  rcases h l l0 l1 with e | e
  · rw [if_pos e]; exact .inl rfl
  · rw [if_neg (by omega)]; exact .inr (by omega)
theorem fillOk_of {μ ρ : Mem} (j : JR μ 58 ρ) : fillOk (rowA ρ 0) := fun l l0 l1 => fillM_in j l0 (by rw [rowA_0] at l1; exact l1)
theorem costOf_eq {μ ρ : Mem} {l : Int} (j : JR μ 58 ρ) (l0 : 0 ≤ l) (l1 : l < ρ 112 2) : ∃ ρ', f_X12_costOf 111 l ρ = some (if wC (rowA ρ 0) l = -1 then farI else wC (rowA ρ 0) l, ρ') ∧ ScW ρ ρ' := by
  obtain ⟨ρ2, p1, p2⟩ := fillingsOf_m (.inl rfl) j l0 l1
  refine ⟨ρ2, ?_, p2⟩
  have hi := fillM_in j l0 l1
  unfold f_X12_costOf wC
  rw [bn_eq p1, nrm_id (z := fillM (rowA ρ 0) l) (by omega) (by omega), show nrm (-1) = -1 from rfl]
  by_cases e : fillM (rowA ρ 0) l = -1
  · rw [if_pos e, if_pos e, if_pos rfl]
  · rw [if_neg e, if_neg e, if_neg (by omega)]
/-- What it costs by a lane, from a place. -/
def cbM (A F : Int → Int) (l k : Int) : Int := if oeM A l k = -1 ∨ wC A l = -1 ∨ F (oeM A l k) = farI then farI else wC A l + F (oeM A l k)
theorem costBy_eq {μ ρ : Mem} {l k : Int} (j : JR μ 58 ρ) (l0 : 0 ≤ l) (l1 : l < ρ 112 2) (k0 : 0 ≤ k) (k7 : k < 7) (hr : ∀ k, 0 ≤ k → k < 7 → 0 ≤ ρ 121 k ∧ ρ 121 k ≤ farI) :
    ∃ ρ', f_X12_costBy 111 l k ρ = some (cbM (rowA ρ 0) (ρ 121) l k, ρ') ∧ ScW ρ ρ' := by
  obtain ⟨hL, hR, _, ⟨L0, L9⟩, _, ⟨K1, K7⟩, _⟩ := now_is j
  have ho := oeM_in (k := k) hR l0 (by rw [rowA_0]; exact l1)
  rw [rowA_0] at ho
  have hf : farI = 268435456 := rfl
  have wi := wC_ok (fillOk_of j) l l0 (by rw [rowA_0]; exact l1)
  unfold f_X12_costBy cbM
  rw [bn_eq (otherEnd_m hR l0 l1 (nrm_id (by omega) (by omega))), nrm_id (z := oeM (rowA ρ 0) l k) (by omega) (by omega), show nrm (-1) = -1 from rfl]
  by_cases e1 : oeM (rowA ρ 0) l k = -1
  · rw [if_pos e1, if_pos (.inl e1)]; exact ⟨ρ, rfl, ScW_rf⟩
  · rw [if_neg e1]
    obtain ⟨ρ2, p1, p2⟩ := costOf_eq j l0 l1
    obtain ⟨j2, _⟩ := JR_sa (SaC_rfl μ) (ScW_sa p2) j
    obtain ⟨ρ3, q1, q2⟩ := costOf_eq j2 l0 (by rw [p2 112 2 (by decide) (by decide)]; exact l1)
    rw [rowA_co (ScW_sa p2)] at q1
    have rr := hr (oeM (rowA ρ 0) l k) (by omega) (by omega)
    rw [bn_eq p1, show nrm 268435456 = 268435456 from rfl]
    by_cases e2 : wC (rowA ρ 0) l = -1
    · rw [if_pos e2, if_pos (by decide : nrm farI = 268435456), if_pos (.inr (.inl e2))]; exact ⟨ρ2, rfl, p2⟩
    · rw [if_neg e2, if_neg (by rw [nrm_id (z := wC (rowA ρ 0) l) (by omega) (by omega)]; omega), gd_pos (by omega), show (111 + 10 : Int) = 121 from rfl, p2 121 _ (by decide) (by decide), nrm_id (z := ρ 121 (oeM (rowA ρ 0) l k)) (by omega) (by omega)]
      by_cases e3 : ρ 121 (oeM (rowA ρ 0) l k) = farI
      · rw [if_pos e3, if_pos (.inr (.inr e3))]; exact ⟨ρ2, rfl, p2⟩
      · rw [if_neg e3, if_neg (by rintro (x | x | x) <;> contradiction), bn_eq q1, if_neg e2, gd_pos (by omega), q2 121 _ (by decide) (by decide), p2 121 _ (by decide) (by decide)]
        exact ⟨ρ3, rfl, ScW_tr p2 q2⟩
def eL (A w : Int → Int) (k : Int) : Nat → Int → List Edge
  | 0, _ => []
  | d + 1, l => (if oeM A l k = -1 ∨ w l = -1 then [] else [(w l, oeM A l k, k)]) ++ eL A w k d (l + 1)
def eP (A w : Int → Int) : Nat → Int → List Edge
  | 0, _ => []
  | d + 1, k => eL A w k (A 2).toNat 0 ++ eP A w d (k + 1)
theorem eL_s (A w : Int → Int) (k : Int) (d : Nat) (l : Int) : eL A w k (d + 1) l = (if oeM A l k = -1 ∨ w l = -1 then [] else [(w l, oeM A l k, k)]) ++ eL A w k d (l + 1) := rfl
theorem oe_EdG {A w : Int → Int} {l k : Int} (l0 : 0 ≤ l) (l1 : l < A 2) (h1 : oeM A l k ≠ -1) (h2 : w l ≠ -1) : EdG A w (w l, oeM A l k, k) := by
  refine ⟨l, l0, l1, h2, rfl, ?_⟩
  unfold oeM at h1 ⊢
  by_cases e : A (11 + l) = k
  · rw [if_pos e]; exact .inr ⟨rfl, e.symm⟩
  · rw [if_neg e] at h1 ⊢
    by_cases e2 : A (20 + l) = k
    · rw [if_pos e2]; exact .inl ⟨rfl, e2.symm⟩
    · rw [if_neg e2] at h1; exact absurd rfl h1
theorem eL_in {A w : Int → Int} {k : Int} : ∀ (d : Nat) (l : Int), 0 ≤ l → l + d = A 2 → ∀ e ∈ eL A w k d l, EdG A w e
  | 0, _, _, _, e, h => by cases h
  | d + 1, l, l0, ld, e, h => by
    rw [eL_s] at h
    rcases List.mem_append.mp h with q | q
    · by_cases z : oeM A l k = -1 ∨ w l = -1
      · rw [if_pos z] at q; cases q
      · rw [if_neg z, List.mem_singleton] at q
        subst q
        exact oe_EdG l0 (by omega) (fun x => z (.inl x)) (fun x => z (.inr x))
    · exact eL_in d (l + 1) (by omega) (by omega) e q
theorem eP_in {A w : Int → Int} (h0 : 0 ≤ A 2) : ∀ (d : Nat) (k : Int), ∀ e ∈ eP A w d k, EdG A w e
  | 0, _, e, h => by cases h
  | d + 1, k, e, h => by
    unfold eP at h
    rcases List.mem_append.mp h with q | q
    · exact eL_in (A 2).toNat 0 (by decide) (by omega) e q
    · exact eP_in h0 d (k + 1) e q
theorem eL_all {A w : Int → Int} {k : Int} : ∀ (d : Nat) (l m : Int), l ≤ m → m < l + d → oeM A m k ≠ -1 → w m ≠ -1 → (w m, oeM A m k, k) ∈ eL A w k d l
  | 0, l, m, h1, h2, _, _ => by omega
  | d + 1, l, m, h1, h2, h3, h4 => by
    rw [eL_s]
    by_cases e : m = l
    · subst e
      rw [if_neg (by rintro (x | x) <;> contradiction)]
      exact List.mem_append_left _ (List.mem_cons_self ..)
    · exact List.mem_append_right _ (eL_all d (l + 1) m (by omega) (by omega) h3 h4)
theorem eP_all {A w : Int → Int} {e : Edge} : ∀ (d : Nat) (k m : Int), k ≤ m → m < k + d → e ∈ eL A w m (A 2).toNat 0 → e ∈ eP A w d k
  | 0, k, m, h1, h2, _ => by omega
  | d + 1, k, m, h1, h2, h3 => by
    unfold eP
    by_cases q : m = k
    · subst q; exact List.mem_append_left _ h3
    · exact List.mem_append_right _ (eP_all d (k + 1) m (by omega) (by omega) h3)
theorem eP_full {μ : Mem} {La : Int} {A w : Int → Int} (h : LR μ La A) : ∀ e, EdG A w e → e ∈ eP A w (A 1).toNat 0 := by
  intro ⟨v, x, y⟩ ⟨l, l0, l1, h1, h2, h3⟩
  obtain ⟨⟨_, k1, k7⟩, ⟨_, l20, _⟩, _, _, _, g6, _⟩ := h
  obtain ⟨_, a2, a3, _, b2, b3, ne, _⟩ := g6 l l0 l1
  dsimp only at h2 h3
  have ho : oeM A l y = x ∧ 0 ≤ y ∧ y < A 1 ∧ 0 ≤ x := by
    unfold oeM
    rcases h3 with ⟨x1, x2⟩ | ⟨x1, x2⟩
    · rw [x1, x2, if_neg ne, if_pos rfl]; exact ⟨rfl, b2, b3, a2⟩
    · rw [x1, x2, if_pos rfl]; exact ⟨rfl, a2, a3, b2⟩
  have hm := eL_all (A := A) (w := w) (k := y) (A 2).toNat 0 l l0 (by omega) (by omega) h1
  rw [ho.1, ← h2] at hm
  exact eP_all (A 1).toNat 0 y ho.2.1 (by omega) hm
def Sc121 (ρ ρ' : Mem) : Prop := ∀ c i, c ≠ 116 → c ≠ 117 → c ≠ 121 → ρ' c i = ρ c i
theorem Sc121_sa {ρ ρ' : Mem} (h : Sc121 ρ ρ') : SaR ρ ρ' := by
  intro c i e
  unfold EssR at e
  exact h c i (by omega) (by omega) (by omega)
theorem Sc121_tr {a b c : Mem} (h : Sc121 a b) (k : Sc121 b c) : Sc121 a c := fun x i e1 e2 e3 => (k x i e1 e2 e3).trans (h x i e1 e2 e3)
theorem cost_l {g k : Int} {μ : Mem} {A : Int → Int} {K1 : Int → Int → Mem → Option (Int × Mem)} {K2 : Int → Int → Int → Mem → Option (Int × Mem)} (g0 : 0 ≤ g) (g7 : g < 7) (k0 : 0 ≤ k) (k7 : k < 7) :
    ∀ (d n : Nat) (l : Int) (m : Bool) (ρ : Mem), rowA ρ 0 = A → 0 ≤ l → l + d = A 2 → d < n → JR μ 58 ρ → JF (EdG A (wC A)) g (ρ 121) →
    ∃ ρ', f_X12_laysCost_w55 K1 K2 n 111 (b2i m) k l ρ = K2 111 (b2i (m || chg (eL A (wC A) k d l) (ρ 121))) (k + 1) ρ' ∧ ρ' 121 = runR (eL A (wC A) k d l) (ρ 121) ∧ Sc121 ρ ρ' := by
  intro d
  induction d with
  | zero =>
    intro n l m ρ hA l0 ld hn j hJ
    obtain ⟨n, rfl⟩ : ∃ q, n = q + 1 := ⟨n - 1, by omega⟩
    obtain ⟨_, _, _, ⟨L0, L9⟩, _⟩ := now_is j
    have e2 : ρ 112 2 = A 2 := by rw [← hA, rowA_0]
    refine ⟨ρ, ?_, rfl, fun _ _ _ _ _ => rfl⟩
    rw [f_X12_laysCost_w55, show (111 + 1 : Int) = 112 from rfl, nrm_id (z := ρ 112 2) (by omega) (by omega), nrm_id (z := l) (by omega) (by omega), if_pos (by omega)]
    show _ = K2 111 (b2i (m || false)) (k + 1) ρ
    rw [Bool.or_false]
  | succ d ih =>
    intro n l m ρ hA l0 ld hn j hJ
    obtain ⟨n, rfl⟩ : ∃ q, n = q + 1 := ⟨n - 1, by omega⟩
    obtain ⟨hL, hR, _, ⟨L0, L9⟩, _, ⟨K1', K7⟩, _⟩ := now_is j
    have e2 : ρ 112 2 = A 2 := by rw [← hA, rowA_0]
    have hf : farI = 268435456 := rfl
    have wi := wC_ok (fillOk_of j) l l0 (by rw [hA]; omega)
    rw [hA] at wi
    have ok : okE (EdG A (wC A)) := by
      have := EdG_ok hR (wC_ok (fillOk_of j))
      rw [hA] at this
      exact this
    have ho := oeM_in (k := k) hR l0 (by rw [hA]; omega)
    rw [hA] at ho
    have hA1 : A 1 = ρ 112 1 := by rw [← hA, rowA_0]
    have rk := hJ.2.1 k k0 k7
    obtain ⟨ρ2, p1, p2⟩ := costBy_eq j l0 (by omega : l < ρ 112 2) k0 k7 hJ.2.1
    rw [hA] at p1
    have row2 : ρ2 121 = ρ 121 := by
      funext i
      exact p2 121 i (by decide) (by decide)
    obtain ⟨j2, _⟩ := JR_sa (SaC_rfl μ) (ScW_sa p2) j
    have hA2 : rowA ρ2 0 = A := by rw [rowA_co (ScW_sa p2)]; exact hA
    obtain ⟨ρ3, q1, q2⟩ := costBy_eq j2 l0 (by rw [p2 112 2 (by decide) (by decide)]; omega) k0 k7 (by rw [row2]; exact hJ.2.1)
    rw [hA2, row2] at q1
    have row3 : ρ3 121 = ρ 121 := by
      funext i
      rw [q2 121 i (by decide) (by decide), p2 121 i (by decide) (by decide)]
    have cbi : -2147483648 ≤ cbM A (ρ 121) l k ∧ cbM A (ρ 121) l k < 2147483648 := by
      unfold cbM
      by_cases z : oeM A l k = -1 ∨ wC A l = -1 ∨ ρ 121 (oeM A l k) = farI
      · rw [if_pos z]; decide
      · rw [if_neg z]
        have z1 : oeM A l k ≠ -1 := fun x => z (.inl x)
        have := hJ.2.1 (oeM A l k) (by omega) (by omega)
        omega
    have hu : f_X12_laysCost_w55 K1 K2 (n + 1) 111 (b2i m) k l ρ = if cbM A (ρ 121) l k < ρ 121 k then f_X12_laysCost_w55 K1 K2 n 111 1 k (l + 1) (ms ρ3 121 k (cbM A (ρ 121) l k)) else f_X12_laysCost_w55 K1 K2 n 111 (b2i m) k (l + 1) ρ2 := by
      rw [f_X12_laysCost_w55, show (111 + 1 : Int) = 112 from rfl, nrm_id (z := ρ 112 2) (by omega) (by omega), nrm_id (z := l) (by omega) (by omega), if_neg (by omega), bn_eq p1, nrm_id (z := k) (by omega) (by omega), gd_pos ⟨k0, k7⟩, show (111 + 10 : Int) = 121 from rfl, row2, nrm_id (z := ρ 121 k) (by omega) (by omega), nrm_id cbi.1 cbi.2, bn_eq q1, gd_pos ⟨k0, k7⟩, nm_eq]
      rfl
    rw [eL_s]
    by_cases z : oeM A l k = -1 ∨ wC A l = -1
    · have cf : cbM A (ρ 121) l k = farI := if_pos (by rcases z with x | x; exact .inl x; exact .inr (.inl x))
      rw [if_neg (by omega)] at hu
      rw [if_pos z, List.nil_append, hu]
      obtain ⟨ρ', y1, y2, y3⟩ := ih n (l + 1) m ρ2 hA2 (by omega) (by omega) (by omega) j2 (by rw [row2]; exact hJ)
      rw [row2] at y1 y2
      exact ⟨ρ', y1, y2, Sc121_tr (fun c i x1 x2 _ => p2 c i x1 x2) y3⟩
    · have z1 : oeM A l k ≠ -1 := fun x => z (.inl x)
      have z2 : wC A l ≠ -1 := fun x => z (.inr x)
      have E : EdG A (wC A) (wC A l, oeM A l k, k) := oe_EdG l0 (by omega) z1 z2
      have hcnd : cbM A (ρ 121) l k < ρ 121 k ↔ (ρ 121 (oeM A l k) ≠ farI ∧ ρ 121 (oeM A l k) + wC A l < ρ 121 k) := by
        unfold cbM
        by_cases y : ρ 121 (oeM A l k) = farI
        · rw [if_pos (.inr (.inr y))]
          constructor
          · intro q; omega
          · intro q; exact absurd y q.1
        · rw [if_neg (by rintro (x | x | x) <;> contradiction)]
          constructor
          · intro q; exact ⟨y, by omega⟩
          · intro q; omega
      rw [if_neg z, chg_app, runR_app]
      by_cases lt : cbM A (ρ 121) l k < ρ 121 k
      · rw [if_pos lt] at hu
        have hc := hcnd.mp lt
        have cv : cbM A (ρ 121) l k = ρ 121 (oeM A l k) + wC A l := by
          unfold cbM
          rw [if_neg (by rintro (x | x | x); exact z1 x; exact z2 x; exact hc.1 x)]
          omega
        have hrl : rlx (ρ 121) (wC A l, oeM A l k, k) = upF (ρ 121) k (ρ 121 (oeM A l k) + wC A l) := if_pos hc
        have row4 : (ms ρ3 121 k (cbM A (ρ 121) l k)) 121 = rlx (ρ 121) (wC A l, oeM A l k, k) := by rw [ms_row, row3, cv, hrl]
        have s4 : Sc121 ρ (ms ρ3 121 k (cbM A (ρ 121) l k)) := fun c i x1 x2 x3 => by rw [ms_nc x3, q2 c i x1 x2, p2 c i x1 x2]
        obtain ⟨ρ', y1, y2, y3⟩ := ih n (l + 1) true (ms ρ3 121 k (cbM A (ρ 121) l k)) (by rw [rowA_co (Sc121_sa s4)]; exact hA) (by omega) (by omega) (by omega) (JR_sa (SaC_rfl μ) (Sc121_sa s4) j).1 (by rw [row4]; exact rlx_JF ok g0 g7 E hJ)
        rw [row4] at y1 y2
        refine ⟨ρ', ?_, y2, Sc121_tr s4 y3⟩
        rw [hu]
        have : chg [(wC A l, oeM A l k, k)] (ρ 121) = true := by
          show (decide _ || false) = true
          rw [Bool.or_false]
          exact decide_eq_true hc
        rw [this, Bool.true_or, Bool.or_true]
        rw [Bool.true_or] at y1
        exact y1
      · rw [if_neg lt] at hu
        have hc : ¬ (ρ 121 (oeM A l k) ≠ farI ∧ ρ 121 (oeM A l k) + wC A l < ρ 121 k) := fun q => lt (hcnd.mpr q)
        have hrl : runR [(wC A l, oeM A l k, k)] (ρ 121) = ρ 121 := if_neg hc
        have hch : chg [(wC A l, oeM A l k, k)] (ρ 121) = false := by
          show (decide _ || false) = false
          rw [Bool.or_false]
          exact decide_eq_false hc
        obtain ⟨ρ', y1, y2, y3⟩ := ih n (l + 1) m ρ2 hA2 (by omega) (by omega) (by omega) j2 (by rw [row2]; exact hJ)
        rw [row2] at y1 y2
        rw [hu, hch, Bool.false_or, hrl]
        exact ⟨ρ', y1, y2, Sc121_tr (fun c i x1 x2 _ => p2 c i x1 x2) y3⟩
theorem cost_k {g : Int} {μ : Mem} {A : Int → Int} {K1 : Int → Int → Mem → Option (Int × Mem)} (g0 : 0 ≤ g) (g7 : g < 7) (okA : okE (EdG A (wC A))) :
    ∀ (d n : Nat) (k : Int) (m : Bool) (ρ : Mem), rowA ρ 0 = A → 0 ≤ k → k + d = A 1 → d < n → JR μ 58 ρ → JF (EdG A (wC A)) g (ρ 121) →
    ∃ ρ', f_X12_laysCost_w42 K1 n 111 (b2i m) k ρ = K1 111 (b2i (m || chg (eP A (wC A) d k) (ρ 121))) ρ' ∧ ρ' 121 = runR (eP A (wC A) d k) (ρ 121) ∧ Sc121 ρ ρ' := by
  intro d
  induction d with
  | zero =>
    intro n k m ρ hA k0 kd hn j hJ
    obtain ⟨n, rfl⟩ : ∃ q, n = q + 1 := ⟨n - 1, by omega⟩
    obtain ⟨_, _, _, _, _, ⟨K1', K7⟩, _⟩ := now_is j
    have e1 : ρ 112 1 = A 1 := by rw [← hA, rowA_0]
    refine ⟨ρ, ?_, rfl, fun _ _ _ _ _ => rfl⟩
    rw [f_X12_laysCost_w42, show (111 + 1 : Int) = 112 from rfl, nrm_id (z := ρ 112 1) (by omega) (by omega), nrm_id (z := k) (by omega) (by omega), if_pos (by omega)]
    show _ = K1 111 (b2i (m || false)) ρ
    rw [Bool.or_false]
  | succ d ih =>
    intro n k m ρ hA k0 kd hn j hJ
    obtain ⟨n, rfl⟩ : ∃ q, n = q + 1 := ⟨n - 1, by omega⟩
    obtain ⟨_, _, _, ⟨L0, L9⟩, _, ⟨K1', K7⟩, _⟩ := now_is j
    have e1 : ρ 112 1 = A 1 := by rw [← hA, rowA_0]
    have e2 : ρ 112 2 = A 2 := by rw [← hA, rowA_0]
    obtain ⟨ρ2, p1, p2, p3⟩ := cost_l (K1 := K1) (K2 := f_X12_laysCost_w42 K1 n) (μ := μ) g0 g7 k0 (by omega : k < 7) (A 2).toNat FU 0 m ρ hA (by decide) (by omega) (by unfold FU; omega) j hJ
    have hin := eL_in (A := A) (w := wC A) (k := k) (A 2).toNat 0 (by decide) (by omega)
    obtain ⟨ρ3, q1, q2, q3⟩ := ih n (k + 1) (m || chg (eL A (wC A) k (A 2).toNat 0) (ρ 121)) ρ2 (by rw [rowA_co (Sc121_sa p3)]; exact hA) (by omega) (by omega) (by omega) (JR_sa (SaC_rfl μ) (Sc121_sa p3) j).1 (by rw [p2]; exact runR_JF okA g0 g7 _ _ hin hJ)
    refine ⟨ρ3, ?_, ?_, Sc121_tr p3 q3⟩
    · rw [f_X12_laysCost_w42, show (111 + 1 : Int) = 112 from rfl, nrm_id (z := ρ 112 1) (by omega) (by omega), nrm_id (z := k) (by omega) (by omega), if_neg (by omega), p1, q1, p2]
      show _ = K1 111 (b2i (m || chg (eL A (wC A) k (A 2).toNat 0 ++ eP A (wC A) d (k + 1)) (ρ 121))) ρ3
      rw [chg_app, Bool.or_assoc]
    · rw [q2, p2]
      show _ = runR (eL A (wC A) k (A 2).toNat 0 ++ eP A (wC A) d (k + 1)) (ρ 121)
      rw [runR_app]
theorem cost_r {g : Int} {μ : Mem} {A D : Int → Int} (g0 : 0 ≤ g) (g7 : g < 7) (hD : isD (EdG A (wC A)) g D) :
    ∀ (d n : Nat) (r : Int) (ρ : Mem), rowA ρ 0 = A → 0 ≤ r → r + d = 7 → d + 1 < n → JR μ 58 ρ → JF (EdG A (wC A)) g (ρ 121) → upTo D (ρ 121) r →
    ∃ ρ', f_X12_laysCost_w34 n 111 1 ρ = some (ρ' 121 (A 55), ρ') ∧ isD (EdG A (wC A)) g (ρ' 121) ∧ Sc121 ρ ρ' := by
  intro d
  induction d with
  | zero =>
    intro n r ρ hA r0 rd hn j hJ hu
    obtain ⟨n, rfl⟩ : ∃ q, n = q + 1 := ⟨n - 1, by omega⟩
    obtain ⟨n, rfl⟩ : ∃ q, n = q + 1 := ⟨n - 1, by omega⟩
    obtain ⟨hL, hR, _, ⟨L0, L9⟩, _, ⟨K1', K7⟩, _, ⟨_, c2, c3⟩, _⟩ := now_is j
    have e55 : ρ 112 55 = A 55 := by rw [← hA, rowA_0]
    have e1' : ρ 112 1 = A 1 := by rw [← hA, rowA_0]
    have e2' : ρ 112 2 = A 2 := by rw [← hA, rowA_0]
    have fo := fillOk_of j
    rw [hA] at hR fo
    have ok := EdG_ok hR (wC_ok fo)
    obtain ⟨ρ2, p1, p2, p3⟩ := cost_k (K1 := f_X12_laysCost_w34 (n + 1)) (μ := μ) g0 g7 ok (A 1).toNat FU 0 false ρ hA (by decide) (by omega) (by unfold FU; omega) j hJ
    have e1 := eP_in (A := A) (w := wC A) (by omega) (A 1).toNat 0
    have hc := chg_D ok g0 g7 hD hJ e1 (upTo_6 ok g0 g7 hD hJ (by omega) hu)
    refine ⟨ρ2, ?_, ?_, p3⟩
    · rw [f_X12_laysCost_w34, if_neg (by decide : ¬ nrm 1 = 0)]
      rw [hc] at p1
      rw [show (b2i false) = 0 from rfl] at p1
      rw [p1, show b2i (false || false) = 0 from rfl, f_X12_laysCost_w34, if_pos (by decide : nrm 0 = 0), show (111 + 1 : Int) = 112 from rfl, p3 112 55 (by decide) (by decide) (by decide), e55, nrm_id (z := A 55) (by omega) (by omega), gd_pos (by omega)]
      rfl
    · rw [p2, (chg_f _ _ hc).1]
      exact isD_of hJ (eP_full hR) hc
  | succ d ih =>
    intro n r ρ hA r0 rd hn j hJ hu
    obtain ⟨n, rfl⟩ : ∃ q, n = q + 1 := ⟨n - 1, by omega⟩
    obtain ⟨hL, hR, _, ⟨L0, L9⟩, _, ⟨K1', K7⟩, _, ⟨_, c2, c3⟩, _⟩ := now_is j
    have e55 : ρ 112 55 = A 55 := by rw [← hA, rowA_0]
    have e1' : ρ 112 1 = A 1 := by rw [← hA, rowA_0]
    have e2' : ρ 112 2 = A 2 := by rw [← hA, rowA_0]
    have fo := fillOk_of j
    rw [hA] at hR fo
    have ok := EdG_ok hR (wC_ok fo)
    obtain ⟨ρ2, p1, p2, p3⟩ := cost_k (K1 := f_X12_laysCost_w34 n) (μ := μ) g0 g7 ok (A 1).toNat FU 0 false ρ hA (by decide) (by omega) (by unfold FU; omega) j hJ
    have e1 := eP_in (A := A) (w := wC A) (by omega) (A 1).toNat 0
    have hu1 : f_X12_laysCost_w34 (n + 1) 111 1 ρ = f_X12_laysCost_w34 n 111 (b2i (chg (eP A (wC A) (A 1).toNat 0) (ρ 121))) ρ2 := by
      rw [f_X12_laysCost_w34, if_neg (by decide : ¬ nrm 1 = 0)]
      rw [show (b2i false) = 0 from rfl, Bool.false_or] at p1
      exact p1
    cases hc : chg (eP A (wC A) (A 1).toNat 0) (ρ 121)
    · rw [hc] at hu1
      obtain ⟨n, rfl⟩ : ∃ q, n = q + 1 := ⟨n - 1, by omega⟩
      refine ⟨ρ2, ?_, ?_, p3⟩
      · rw [hu1, show b2i false = 0 from rfl, f_X12_laysCost_w34, if_pos (by decide : nrm 0 = 0), show (111 + 1 : Int) = 112 from rfl, p3 112 55 (by decide) (by decide) (by decide), e55, nrm_id (z := A 55) (by omega) (by omega), gd_pos (by omega)]
        rfl
      · rw [p2, (chg_f _ _ hc).1]
        exact isD_of hJ (eP_full hR) hc
    · rw [hc] at hu1
      obtain ⟨ρ3, q1, q2, q3⟩ := ih n (r + 1) ρ2 (by rw [rowA_co (Sc121_sa p3)]; exact hA) (by omega) (by omega) (by omega) (JR_sa (SaC_rfl μ) (Sc121_sa p3) j).1 (by rw [p2]; exact runR_JF ok g0 g7 _ _ e1 hJ) (by rw [p2]; exact upTo_s ok g0 g7 hD hJ e1 (eP_full hR) hu)
      exact ⟨ρ3, by rw [hu1]; exact q1, q2, Sc121_tr p3 q3⟩
theorem cost_0 {c : Int} : ∀ (d k n : Nat) (ρ : Mem), k + d = 7 → d < n → 0 ≤ c → c < 7 → (∀ i : Int, 0 ≤ i → i < k → ρ 121 i = if i = c then 0 else farI) →
    ∃ ρ', f_X12_laysCost_w2 n 111 c k ρ = f_X12_laysCost_w34 FU 111 1 ρ' ∧ (∀ i : Int, 0 ≤ i → i < 7 → ρ' 121 i = if i = c then 0 else farI) ∧ (∀ x i, x ≠ 121 → ρ' x i = ρ x i) := by
  intro d
  induction d with
  | zero =>
    intro k n ρ hk hn c0 c7 h
    obtain ⟨n, rfl⟩ : ∃ q, n = q + 1 := ⟨n - 1, by omega⟩
    obtain rfl : k = 7 := by omega
    refine ⟨ρ, ?_, h, fun _ _ _ => rfl⟩
    rw [f_X12_laysCost_w2, if_pos (by decide)]
  | succ d ih =>
    intro k n ρ hk hn c0 c7 h
    obtain ⟨n, rfl⟩ : ∃ q, n = q + 1 := ⟨n - 1, by omega⟩
    obtain ⟨ρ', y1, y2, y3⟩ := ih (k + 1) n (ms ρ 121 k (if (k : Int) = c then 0 else farI)) (by omega) (by omega) c0 c7 (by
      intro i i0 i1
      by_cases e : i = k
      · rw [e, ms_eq]
      · rw [ms_ni e]; exact h i i0 (by omega))
    refine ⟨ρ', ?_, y2, fun x i hx => by rw [y3 x i hx, ms_nc hx]⟩
    rw [f_X12_laysCost_w2, nrm_id (z := (k : Int)) (by omega) (by omega), if_neg (by show ¬ ((7 : Int) ≤ k); omega), nrm_id (z := c) (by omega) (by omega)]
    unfold f_X12_laysCost_j25
    rw [nrm_id (z := (k : Int)) (by omega) (by omega), show (111 + 10 : Int) = 121 from rfl]
    have hg : isA 121 1 ∧ 0 ≤ (k : Int) ∧ (k : Int) < aln 121 := ⟨by decide, by omega, by show (k : Int) < 7; omega⟩
    rw [gd_pos hg, gd_pos hg, nm_eq, nm_eq, ← y1]
    by_cases e : (k : Int) = c
    · rw [if_pos e, if_pos e]; rfl
    · rw [if_neg e, if_neg e]; rfl
/-- The reference's costs to a goal. -/
theorem laysCost_eq {g : Int} {μ ρ : Mem} (g0 : 0 ≤ g) (g7 : g < 7) (j : JR μ 58 ρ) :
    ∃ ρ', f_X12_laysCost 111 g ρ = some (ρ' 121 (ρ 112 55), ρ') ∧ isD (EdG (rowA ρ 0) (wC (rowA ρ 0))) g (ρ' 121) ∧ Sc121 ρ ρ' := by
  obtain ⟨hL, hR, _, _⟩ := now_is j
  have ok := EdG_ok hR (wC_ok (fillOk_of j))
  obtain ⟨ρ1, p1, p2, p3⟩ := cost_0 (c := g) 7 0 FU ρ (by omega) (by unfold FU; omega) g0 g7 (fun i _ i1 => absurd i1 (by omega))
  have sa : Sc121 ρ ρ1 := fun c i _ _ x3 => p3 c i x3
  have hJ : JF (EdG (rowA ρ 0) (wC (rowA ρ 0))) g (ρ1 121) := JF_0 g0 g7 p2
  obtain ⟨D, hD⟩ := D_ex ok g0 g7
  obtain ⟨ρ2, q1, q2, q3⟩ := cost_r (μ := μ) g0 g7 hD 7 FU 0 ρ1 (rowA_co (Sc121_sa sa) 0) (by decide) (by decide) (by unfold FU; omega) (JR_sa (SaC_rfl μ) (Sc121_sa sa) j).1 hJ (upTo_0 ok g0 g7 hD hJ)
  refine ⟨ρ2, ?_, q2, Sc121_tr sa q3⟩
  unfold f_X12_laysCost
  rw [show ((0 : Nat) : Int) = 0 from rfl] at p1
  rw [p1, q1, rowA_0]
