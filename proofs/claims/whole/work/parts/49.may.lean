def wsM (l d so pu ra ba : Int) : Int → Int := fun i => if i = 0 then l else if i = 1 then d else if i = 2 then so else if i = 3 then pu else if i = 4 then ra else ba
def lawV (A : Int → Int) (w : Int) (ws : Int → Int) : Int := (evR ws (fun j => A (200 + j)) (A (9 + w)).toNat (A (7 + w)) []).headD 0
/-- Whether the cart may go by a lane of such a depth (1), or not (0). -/
def mayM (A : Int → Int) (l d rain back : Int) : Int := if A 6 = 0 then (if d ≤ A 4 then 1 else 0) else if lawV A 1 (wsM l d (A (29 + l)) (A 4) rain (boM back)) = 1 then 1 else 0
def cut6 (z : Int) : Int := if 0 ≤ z then (if z ≤ 6 then z else 6) else 0
/-- How deep a lane's rut becomes. -/
def wornM (A : Int → Int) (l d rain : Int) : Int := if A 5 = 1 then cut6 (lawV A 0 (wsM l d (A (29 + l)) (A 4) rain 0)) else if A (29 + l) + rain ≤ 5 then d else cut6 (d + 1)
def ScL (La : Int) (μ μ' : Mem) : Prop := ∀ c i, ¬ (c = La + 7 ∧ i = 6) → c ≠ La + 11 → c ≠ La + 12 → μ' c i = μ c i
def ScW (ρ ρ' : Mem) : Prop := ∀ c i, c ≠ 116 → c ≠ 117 → ρ' c i = ρ c i
theorem ScL_rf {La : Int} {a : Mem} : ScL La a a := fun _ _ _ _ _ => rfl
theorem ScL_tr {La : Int} {a b c : Mem} (h : ScL La a b) (k : ScL La b c) : ScL La a c := fun x i e f g => (k x i e f g).trans (h x i e f g)
theorem ScW_rf {a : Mem} : ScW a a := fun _ _ _ _ => rfl
theorem ScW_tr {a b c : Mem} (h : ScW a b) (k : ScW b c) : ScW a c := fun x i e f => (k x i e f).trans (h x i e f)
theorem ScL_sa {La : Int} {μ μ' : Mem} (hL : isL La) (h : ScL La μ μ') : SaC μ μ' := by
  intro c i e
  refine h c i ?_ ?_ ?_ <;> (unfold EssC at e; unfold isL at hL; omega)
theorem ScW_sa {ρ ρ' : Mem} (h : ScW ρ ρ') : SaR ρ ρ' := by
  intro c i e
  refine h c i ?_ ?_ <;> (unfold EssR at e; omega)
theorem hasLane_eq {La l L : Int} {μ : Mem} (hl : μ La 1 = L) (L0 : 0 ≤ L) (L9 : L ≤ 9) (hn : nrm l = l) : f_X3_hasLane La l μ = some (if 0 ≤ l ∧ l < L then 1 else 0, μ) := by
  unfold f_X3_hasLane
  rw [hl, hn, nrm_id (z := L) (by omega) (by omega), show nrm 9 = 9 from rfl]
  by_cases a : l < 0
  · rw [if_pos a, if_neg (by omega)]
  · rw [if_neg a]
    by_cases b : L ≤ l
    · rw [if_pos b, if_neg (by omega)]
    · rw [if_neg b, if_neg (by omega), if_pos (by omega)]
theorem hasLaw_eq {La w : Int} {A : Int → Int} {μ : Mem} (hw : w = 0 ∨ w = 1) (h : LawR μ La A w) : f_X4_hasLaw (La + 7) w μ = some (A (5 + w), μ) := by
  unfold f_X4_hasLaw
  rw [nrm_id (z := w) (by omega) (by omega), if_neg (by omega), if_neg (by show ¬ ((2 : Int) ≤ w); omega), gd_pos (by omega), gd_pos (by omega)]
  rw [show La + 7 + 3 = La + 10 by omega, show La + 7 + 2 = La + 9 by omega]
  rcases h with ⟨a, b, c⟩ | ⟨a, b, c, d, e, f, _⟩
  · rw [b, c, if_pos (Int.le_refl _), a]
  · rw [e, f, nrm_id (z := A (7 + w)) (by omega) (by omega), nrm_id (z := A (7 + w) + A (9 + w)) (by omega) (by omega), if_neg (by omega), a]
theorem law_k {La : Int} (h : isL La) : isK (La + 7) 4 := by
  rcases h with h | h | h | h <;> subst h
  · exact kk_13
  · exact kk_26
  · exact kk_39
  · exact kk_52
theorem headD_one {l : List Int} {v : Int} (h : l = [v]) : l.headD 0 = v := by subst h; rfl
/-- A law told by the class: it looks, and tells. -/
theorem told_c {La w l d so pu ra ba : Int} {A : Int → Int} {μ : Mem} (hL : isL La) (hw : w = 0 ∨ w = 1) (h : LawR μ La A w) (h1 : A (5 + w) = 1) (hs : ∀ i, 0 ≤ i → i < 6 → -1000000 ≤ wsM l d so pu ra ba i ∧ wsM l d so pu ra ba i ≤ 1000000) :
    ∃ μ1 μ2, f_X4_look (La + 7) l d so pu ra ba μ = some (0, μ1) ∧ f_X4_tell (La + 7) w μ1 = some (lawV A w (wsM l d so pu ra ba), μ2) ∧ okV (decide (w = 1)) (lawV A w (wsM l d so pu ra ba)) ∧ ScL La μ μ2 := by
  rcases h with ⟨a, _⟩ | ⟨_, b, c, e, f, g, k, t⟩
  · omega
  · unfold f_X4_look
    simp only [nm_eq]
    refine ⟨ms (ms (ms (ms (ms (ms μ (La + 7 + 4) 0 l) (La + 7 + 4) 1 d) (La + 7 + 4) 2 so) (La + 7 + 4) 3 pu) (La + 7 + 4) 4 ra) (La + 7 + 4) 5 ba, ?_⟩
    have hm : ∀ c i, c ≠ La + 11 → (ms (ms (ms (ms (ms (ms μ (La + 7 + 4) 0 l) (La + 7 + 4) 1 d) (La + 7 + 4) 2 so) (La + 7 + 4) 3 pu) (La + 7 + 4) 4 ra) (La + 7 + 4) 5 ba) c i = μ c i := by
      intro c i h
      simp (disch := omega) only [ms_nc]
    have hv : ∀ i, 0 ≤ i → i < 6 → (ms (ms (ms (ms (ms (ms μ (La + 7 + 4) 0 l) (La + 7 + 4) 1 d) (La + 7 + 4) 2 so) (La + 7 + 4) 3 pu) (La + 7 + 4) 4 ra) (La + 7 + 4) 5 ba) (La + 7 + 4) i = wsM l d so pu ra ba i := by
      intro i i1 i2
      rcases (by omega : i = 0 ∨ i = 1 ∨ i = 2 ∨ i = 3 ∨ i = 4 ∨ i = 5) with h | h | h | h | h | h <;> subst h <;> simp [ms, wsM]
    obtain ⟨v, μ2, q1, q2, q3, q4⟩ := tell_eq (X := La + 7) (w := w) (F := A (7 + w)) (M := A (9 + w)) (cd := fun j => A (200 + j)) (law_k hL) hw hs (by rw [hm _ _ (by omega), show La + 7 + 2 = La + 9 by omega]; exact f) (by rw [hm _ _ (by omega), show La + 7 + 3 = La + 10 by omega]; exact g) b (by omega) e t
      (fun j j1 j2 => by rw [hm _ _ (by omega), show La + 7 + 1 = La + 8 by omega]; exact k j j1 j2) hv
    have ev : lawV A w (wsM l d so pu ra ba) = v := headD_one q2
    refine ⟨μ2, rfl, ?_, ?_, ?_⟩
    · rw [ev]; exact q1
    · rw [ev]; exact q3
    · intro c i x y z
      rw [q4 c i x (by omega), hm _ _ y]
theorem mayGo_c {La l d C ra ba : Int} {A : Int → Int} {μ : Mem} (hL : isL La) (h : LR μ La A) (l0 : 0 ≤ l) (l1 : l < A 2) (d0 : 0 ≤ d) (d1 : d ≤ 6) (hC : isK C 0) (e1 : μ C 2 = ra) (e2 : μ C 3 = ba) (r0 : 0 ≤ ra) (r9 : ra ≤ 9) (b0 : 0 ≤ ba) (b9 : ba < 512) :
    ∃ μ', f_X3_mayGo La l d C μ = some (mayM A l d ra ba, μ') ∧ ScL La μ μ' := by
  obtain ⟨_, ⟨g2, g20, g29⟩, _, _, ⟨g5, g50, g59⟩, g6, _, _, g9⟩ := h
  obtain ⟨_, _, _, _, _, _, _, s1, s2, s3, _⟩ := g6 l l0 l1
  obtain ⟨bq, bq0, bq9⟩ := bits_eq b0 b9
  have hlaw := hasLaw_eq (.inr rfl) g9
  rw [show (5 + 1 : Int) = 6 from rfl] at hlaw
  unfold f_X3_mayGo
  rw [bn_eq (hasLane_eq g2 g20 g29 (nrm_id (by omega) (by omega))), if_pos (⟨l0, l1⟩ : 0 ≤ l ∧ l < A 2), if_neg (by decide : ¬ nrm 1 = 0), bn_eq hlaw]
  unfold mayM
  have e6 : A (5 + 1) = 0 ∨ A (5 + 1) = 1 := by
    rcases g9 with h | h
    · exact .inl h.1
    · exact .inr h.1
  rw [show (5 + 1 : Int) = 6 from rfl] at e6
  rcases e6 with e6 | e6
  · rw [e6, if_pos (by decide : nrm 0 = 0), if_pos rfl, g5, nrm_id (z := A 4) (by omega) (by omega), nrm_id (z := d) (by omega) (by omega)]
    by_cases q : d ≤ A 4
    · rw [if_neg (by omega), if_pos q]; exact ⟨μ, rfl, ScL_rf⟩
    · rw [if_pos (by omega), if_neg q]; exact ⟨μ, rfl, ScL_rf⟩
  · rw [e6, if_neg (by decide : ¬ nrm 1 = 0), if_neg (by decide : ¬ (1 : Int) = 0), nrm_id (z := l) (by omega) (by omega), gd_pos (by omega), gd_pos hC, bn_eq (bitCount_eq _ _), s1, g5, e1, e2, bq]
    obtain ⟨μ1, μ2, p1, p2, p3, p4⟩ := told_c (l := l) (d := d) (so := A (29 + l)) (pu := A 4) (ra := ra) (ba := boM ba) hL (.inr rfl) g9 (by simpa using e6) (by
      intro i i1 i2
      unfold wsM
      rcases (by omega : i = 0 ∨ i = 1 ∨ i = 2 ∨ i = 3 ∨ i = 4 ∨ i = 5) with h | h | h | h | h | h <;> subst h <;> simp <;> omega)
    rw [bn_eq p1, bn_eq p2]
    have p3' : lawV A 1 (wsM l d (A (29 + l)) (A 4) ra (boM ba)) = 0 ∨ lawV A 1 (wsM l d (A (29 + l)) (A 4) ra (boM ba)) = 1 := p3
    rcases p3' with q | q
    · rw [q, if_pos (by decide : nrm 0 = 0), if_neg (by decide)]; exact ⟨μ2, rfl, p4⟩
    · rw [q, if_neg (by decide : ¬ nrm 1 = 0), if_pos rfl]; exact ⟨μ2, rfl, p4⟩
