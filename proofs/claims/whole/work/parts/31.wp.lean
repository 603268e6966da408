theorem nm_eq {α β : Type} (x : α) (k : α → β) : nm x k = k x := rfl
theorem ms_eq (μ : Mem) (c i v : Int) : ms μ c i v c i = v := if_pos ⟨rfl, rfl⟩
theorem ms_nc {μ : Mem} {c i v c' i' : Int} (h : c' ≠ c) : ms μ c i v c' i' = μ c' i' := if_neg (fun e => h e.1)
theorem ms_ni {μ : Mem} {c i v c' i' : Int} (h : i' ≠ i) : ms μ c i v c' i' = μ c' i' := if_neg (fun e => h e.2)
theorem ms_at (μ : Mem) (c i v c' i' : Int) : ms μ c i v c' i' = if c' = c ∧ i' = i then v else μ c' i' := rfl

def wp (o : Option (Int × Mem)) (Q : Int → Mem → Prop) : Prop := ∃ r μ, o = some (r, μ) ∧ Q r μ
theorem wp_some {r : Int} {μ : Mem} {Q : Int → Mem → Prop} : wp (some (r, μ)) Q ↔ Q r μ := by
  constructor
  · intro ⟨r', μ', e, h⟩
    injection e with e
    injection e with e1 e2
    subst e1; subst e2; exact h
  · intro h; exact ⟨r, μ, rfl, h⟩
theorem wp_nm {α : Type} {x : α} {k : α → Option (Int × Mem)} {Q : Int → Mem → Prop} : wp (nm x k) Q ↔ wp (k x) Q := Iff.rfl
theorem wp_bn {o : Option (Int × Mem)} {k : Int → Mem → Option (Int × Mem)} {Q : Int → Mem → Prop} : wp (bn o k) Q ↔ wp o (fun r μ => wp (k r μ) Q) := by
  constructor
  · intro ⟨r, μ, e, h⟩
    obtain ⟨r1, μ1, e1, e2⟩ := bn_some e
    exact ⟨r1, μ1, e1, r, μ, e2, h⟩
  · intro ⟨r1, μ1, e1, r, μ, e2, h⟩
    exact ⟨r, μ, (bn_eq e1).trans e2, h⟩
theorem wp_gd {P : Prop} [Decidable P] {k : Option (Int × Mem)} {Q : Int → Mem → Prop} : wp (gd P k) Q ↔ P ∧ wp k Q := by
  constructor
  · intro ⟨r, μ, e, h⟩
    obtain ⟨p, e⟩ := gd_some e
    exact ⟨p, r, μ, e, h⟩
  · intro ⟨p, r, μ, e, h⟩
    exact ⟨r, μ, (gd_pos p).trans e, h⟩
theorem wp_ite {P : Prop} [Decidable P] {a b : Option (Int × Mem)} {Q : Int → Mem → Prop} : wp (if P then a else b) Q ↔ (P → wp a Q) ∧ (¬ P → wp b Q) := by
  by_cases p : P
  · simp only [if_pos p]
    exact ⟨fun h => ⟨fun _ => h, fun n => absurd p n⟩, fun h => h.1 p⟩
  · simp only [if_neg p]
    exact ⟨fun h => ⟨fun n => absurd n p, fun _ => h⟩, fun h => h.2 p⟩
theorem wp_mono {o : Option (Int × Mem)} {Q Q' : Int → Mem → Prop} (h : wp o Q) (k : ∀ r μ, Q r μ → Q' r μ) : wp o Q' := by
  obtain ⟨r, μ, e, q⟩ := h
  exact ⟨r, μ, e, k r μ q⟩
theorem wp_of {o : Option (Int × Mem)} {r : Int} {μ : Mem} {Q : Int → Mem → Prop} (h : o = some (r, μ)) (q : Q r μ) : wp o Q := ⟨r, μ, h, q⟩
theorem wp_iff {o : Option (Int × Mem)} {r : Int} {μ : Mem} {Q : Int → Mem → Prop} (h : o = some (r, μ)) : wp o Q ↔ Q r μ := by rw [h]; exact wp_some

theorem nrm_lo (z : Int) : -2147483648 ≤ nrm z := Int32.le_toInt _
theorem nrm_hi (z : Int) : nrm z < 2147483648 := Int32.toInt_lt _
theorem nrm_nrm (z : Int) : nrm (nrm z) = nrm z := nrm_id (nrm_lo z) (nrm_hi z)
theorem sx_lo (xs : Nat → Int32) (i : Int) : -2147483648 ≤ sx xs i := Int32.le_toInt _
theorem sx_hi (xs : Nat → Int32) (i : Int) : sx xs i < 2147483648 := Int32.toInt_lt _

/-- The places of the class's cells that a later call can see. -/
def EssC (c i : Int) : Prop := c = 0 ∨ c = 1 ∨ (6 ≤ c ∧ c < 58 ∧ (c - 6) % 13 ≠ 11 ∧ (c - 6) % 13 ≠ 12 ∧ ¬ ((c - 6) % 13 = 7 ∧ i = 6)) ∨ c = 58 ∨ c = 59 ∨ (62 ≤ c ∧ c ≤ 97) ∨ (c = 108 ∧ (i = 0 ∨ i = 1))
/-- The places of the reference's cells that a later call can see. -/
def EssR (c i : Int) : Prop := (c = 111 ∧ (i = 5 ∨ i = 13 ∨ i = 14)) ∨ c = 112 ∨ c = 113 ∨ c = 114 ∨ c = 126 ∨ c = 127 ∨ c = 128
def SaC (μ μ' : Mem) : Prop := ∀ c i, EssC c i → μ' c i = μ c i
def SaR (μ μ' : Mem) : Prop := ∀ c i, EssR c i → μ' c i = μ c i
theorem SaC_rfl (μ : Mem) : SaC μ μ := fun _ _ _ => rfl
theorem SaR_rfl (μ : Mem) : SaR μ μ := fun _ _ _ => rfl
theorem SaC_tr {a b c : Mem} (h : SaC a b) (k : SaC b c) : SaC a c := fun x i e => (k x i e).trans (h x i e)
theorem SaR_tr {a b c : Mem} (h : SaR a b) (k : SaR b c) : SaR a c := fun x i e => (k x i e).trans (h x i e)
theorem SaR_thrown (μ : Mem) (v : Int) : SaR μ (ms μ 111 0 v) := by
  intro c i e
  apply if_neg
  intro ⟨h1, h2⟩
  unfold EssR at e
  omega
