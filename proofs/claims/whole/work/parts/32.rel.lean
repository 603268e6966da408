def phi (c : Int) : Int := if c < 3000 then c else 2000 + 1000 * (c - 3000)

/-- One step of a law's code on a stack of sorts (true: a truth). -/
def tyS (w c : Int) (s : List Bool) : Option (List Bool) :=
  if (0 ≤ c ∧ c < 1000) ∨ (1000 ≤ c ∧ c < 1005 + w) then (if s.length < 64 then some (false :: s) else none)
  else if 3000 ≤ c ∧ c ≤ 3002 then (match s with | false :: false :: t => some (false :: t) | _ => none)
  else if 3003 ≤ c ∧ c ≤ 3005 then (match s with | false :: false :: t => some (true :: t) | _ => none)
  else if c = 3006 then (match s with | true :: t => some (true :: t) | _ => none)
  else if c = 3007 ∨ c = 3008 then (match s with | true :: true :: t => some (true :: t) | _ => none)
  else if c = 3009 then (match s with | false :: false :: true :: t => some (false :: t) | _ => none)
  else none
def tyR (w : Int) (cd : Int → Int) : Nat → Int → List Bool → Option (List Bool)
  | 0, _, s => some s
  | n + 1, k, s => (tyS w (cd k) s).bind (tyR w cd n (k + 1))

def isL (La : Int) : Prop := La = 6 ∨ La = 19 ∨ La = 32 ∨ La = 45

def LaneR (μ : Mem) (La : Int) (A : Int → Int) (l : Int) : Prop :=
  μ (La + 1) l = A (11 + l) ∧ 0 ≤ A (11 + l) ∧ A (11 + l) < A 1 ∧ μ (La + 2) l = A (20 + l) ∧ 0 ≤ A (20 + l) ∧ A (20 + l) < A 1 ∧
  A (11 + l) ≠ A (20 + l) ∧ μ (La + 4) l = A (29 + l) ∧ 0 ≤ A (29 + l) ∧ A (29 + l) ≤ 9 ∧ μ (La + 5) l = A (38 + l) ∧ 0 ≤ A (38 + l) ∧ A (38 + l) ≤ 10
def TurnR (μ : Mem) (La : Int) (A : Int → Int) (p : Int) : Prop := μ (La + 6) p = A (47 + p) ∧ 0 ≤ A (47 + p) ∧ A (47 + p) ≤ 8
/-- The law w is not told, or it is told alike, and its code is in order. -/
def LawR (μ : Mem) (La : Int) (A : Int → Int) (w : Int) : Prop :=
  (A (5 + w) = 0 ∧ μ (La + 9) w = 0 ∧ μ (La + 10) w = 0) ∨
  (A (5 + w) = 1 ∧ 0 ≤ A (7 + w) ∧ 1 ≤ A (9 + w) ∧ A (7 + w) + A (9 + w) ≤ 900 ∧ μ (La + 9) w = A (7 + w) ∧ μ (La + 10) w = A (7 + w) + A (9 + w) ∧
    (∀ j, A (7 + w) ≤ j → j < A (7 + w) + A (9 + w) → μ (La + 8) j = phi (A (200 + j))) ∧
    tyR w (fun j => A (200 + j)) (A (9 + w)).toNat (A (7 + w)) [] = some [decide (w = 1)])
/-- A land of the class, and one of the reference's rows. -/
def LR (μ : Mem) (La : Int) (A : Int → Int) : Prop :=
  (μ La 0 = A 1 ∧ 1 ≤ A 1 ∧ A 1 ≤ 7) ∧ (μ La 1 = A 2 ∧ 0 ≤ A 2 ∧ A 2 ≤ 9) ∧ (μ La 2 = A 3 ∧ 0 ≤ A 3 ∧ A 3 ≤ 8) ∧ μ La 3 = A 0 ∧
  (μ La 5 = A 4 ∧ 0 ≤ A 4 ∧ A 4 ≤ 9) ∧ (∀ l, 0 ≤ l → l < A 2 → LaneR μ La A l) ∧ (∀ p, 0 ≤ p → p < A 3 → TurnR μ La A p) ∧
  LawR μ La A 0 ∧ LawR μ La A 1
/-- A course of the class (its depths in the next cell), and the 13 numbers from o on. -/
def CR (μ : Mem) (C : Int) (A : Int → Int) (o : Int) : Prop :=
  (μ C 1 = A o ∧ 0 ≤ A o ∧ A o < A 1) ∧ (μ C 2 = A (o + 11) ∧ 0 ≤ A (o + 11) ∧ A (o + 11) ≤ 9) ∧
  (μ C 3 = A (o + 10) ∧ 0 ≤ A (o + 10) ∧ A (o + 10) < 2 ^ (A 3).toNat) ∧ μ C 4 = A (o + 12) ∧
  (∀ l, 0 ≤ l → l < A 2 → μ (C + 1) l = A (o + 1 + l) ∧ 0 ≤ A (o + 1 + l) ∧ A (o + 1 + l) ≤ 6)

def rowA (ρ : Mem) (B : Int) : Int → Int := fun i => ρ 112 (B + i)
def TapeR (μ ρ : Mem) : Prop := μ 0 1 = ρ 111 5 ∧ 0 ≤ μ 0 1 ∧ μ 0 1 ≤ 900 ∧ ∀ i, 0 ≤ i → i < μ 0 1 → ρ 114 i = jand (μ 1 i) 255
/-- The two rows of the odds, in one order or the other. -/
def OddR (μ : Mem) : Prop := (μ 108 0 = 109 ∧ μ 108 1 = 110) ∨ (μ 108 0 = 110 ∧ μ 108 1 = 109)
def FaultR (μ ρ : Mem) : Prop := μ 0 3 = ρ 111 13 ∧ μ 0 4 = ρ 111 14 ∧ OddR μ
def NowR (μ ρ : Mem) : Prop := isL (μ 58 0) ∧ LR μ (μ 58 0) (rowA ρ 0) ∧ CR μ 58 (rowA ρ 0) 55
def HistR (μ ρ : Mem) : Prop := μ 62 2 = ρ 112 68 ∧ 0 ≤ ρ 112 68 ∧ ρ 112 68 ≤ 10 ∧ 0 ≤ μ 62 1 ∧ μ 62 1 < 10 ∧
  ∀ k, 0 ≤ k → k < ρ 112 68 → CR μ (64 + 2 * ((μ 62 1 - ρ 112 68 + k) % 10)) (rowA ρ 0) (69 + 13 * k) ∧ μ (64 + 2 * ((μ 62 1 - ρ 112 68 + k) % 10)) 0 = μ 58 0
def ImgR (μ ρ : Mem) (i : Int) : Prop := (ρ 113 i = 0 ∨ ρ 113 i = 1) ∧ isL (μ (85 + 2 * i) 0) ∧
  (ρ 113 i = 1 → LR μ (μ (85 + 2 * i) 0) (rowA ρ (1100 * (i + 1))) ∧ CR μ (85 + 2 * i) (rowA ρ (1100 * (i + 1))) 55)
def TrayR (μ ρ : Mem) (t : Int) : Prop := (μ (90 + 2 * t) 0 = 1 ∧ ρ 126 t = -1) ∨
  (μ (90 + 2 * t) 0 = 0 ∧ μ (90 + 2 * t) 2 = ρ 126 t ∧ 0 ≤ ρ 126 t ∧ ρ 126 t ≤ 3 ∧ μ (90 + 2 * t) 1 = ρ 127 t ∧ 0 ≤ ρ 127 t ∧ ρ 127 t ≤ 40 ∧
    ∀ i, 0 ≤ i → i < ρ 127 t → μ (91 + 2 * t) i = ρ 128 (40 * t + i) ∧ nrl (ρ 128 (40 * t + i)) = ρ 128 (40 * t + i))
/-- What class and reference have in common between two calls. -/
def RR (μ ρ : Mem) : Prop := TapeR μ ρ ∧ FaultR μ ρ ∧ NowR μ ρ ∧ HistR μ ρ ∧ (ImgR μ ρ 0 ∧ ImgR μ ρ 1 ∧ μ 0 10 = ρ 113 0 + 2 * ρ 113 1) ∧ (∀ t, 0 ≤ t → t < 4 → TrayR μ ρ t)

theorem LR_co {μ μ' : Mem} {La : Int} {A : Int → Int} (hL : isL La) (s : ∀ c i, La ≤ c → c ≤ La + 10 → c ≠ La + 7 → μ' c i = μ c i) (h : LR μ La A) : LR μ' La A := by
  obtain ⟨h1, h2, h3, h4, h5, h6, h7, h8, h9⟩ := h
  have hw : ∀ w, LawR μ La A w → LawR μ' La A w := by
    intro w h
    unfold LawR at h ⊢
    rw [s (La + 9) w (by omega) (by omega) (by omega), s (La + 10) w (by omega) (by omega) (by omega)]
    rcases h with h | ⟨a, b, c, d, e, f, g, k⟩
    · exact .inl h
    · refine .inr ⟨a, b, c, d, e, f, ?_, k⟩
      intro j j1 j2
      rw [s (La + 8) j (by omega) (by omega) (by omega)]
      exact g j j1 j2
  refine ⟨?_, ?_, ?_, ?_, ?_, ?_, ?_, hw 0 h8, hw 1 h9⟩
  · rw [s La 0 (by omega) (by omega) (by omega)]; exact h1
  · rw [s La 1 (by omega) (by omega) (by omega)]; exact h2
  · rw [s La 2 (by omega) (by omega) (by omega)]; exact h3
  · rw [s La 3 (by omega) (by omega) (by omega)]; exact h4
  · rw [s La 5 (by omega) (by omega) (by omega)]; exact h5
  · intro l l1 l2
    have h := h6 l l1 l2
    unfold LaneR at h ⊢
    rw [s (La + 1) l (by omega) (by omega) (by omega), s (La + 2) l (by omega) (by omega) (by omega), s (La + 4) l (by omega) (by omega) (by omega), s (La + 5) l (by omega) (by omega) (by omega)]
    exact h
  · intro l l1 l2
    have h := h7 l l1 l2
    unfold TurnR at h ⊢
    rw [s (La + 6) l (by omega) (by omega) (by omega)]
    exact h
theorem CR_co {μ μ' : Mem} {C o : Int} {A : Int → Int} (s : ∀ i, μ' C i = μ C i) (s' : ∀ i, μ' (C + 1) i = μ (C + 1) i) (h : CR μ C A o) : CR μ' C A o := by
  unfold CR at h ⊢
  simp only [s, s']
  exact h
