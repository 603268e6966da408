/-- A course taken over into another one. -/
def tko (μ : Mem) (d s : Int) : Mem := fun c i => if c = d ∧ 0 ≤ i ∧ i ≤ 4 then μ s i else if c = d + 1 ∧ 0 ≤ i ∧ i < 9 then μ (s + 1) i else μ c i
theorem tko_nc {μ : Mem} {d s c i : Int} (h1 : c ≠ d) (h2 : c ≠ d + 1) : tko μ d s c i = μ c i := by
  unfold tko
  rw [if_neg (fun e => h1 e.1), if_neg (fun e => h2 e.1)]
theorem tko_at {μ : Mem} {d s i : Int} (h1 : 0 ≤ i) (h2 : i ≤ 4) : tko μ d s d i = μ s i := if_pos ⟨rfl, h1, h2⟩
theorem tko_in {μ : Mem} {d s i : Int} (h1 : 0 ≤ i) (h2 : i < 9) : tko μ d s (d + 1) i = μ (s + 1) i := by
  unfold tko
  rw [if_neg (by omega), if_pos ⟨rfl, h1, h2⟩]
theorem takeOver_eq {d s : Int} (μ : Mem) (hs : isK s 0) (h1 : d ≠ s) (h2 : d ≠ s + 1) (h3 : s ≠ d + 1) : f_X0_takeOver d s μ = some (0, tko μ d s) := by
  unfold f_X0_takeOver
  rw [gd_pos hs]
  simp only [nm_eq, Option.some.injEq, Prod.mk.injEq, true_and]
  funext c i
  unfold cpm tko
  simp (disch := omega) only [ms_nc]
  by_cases e1 : c = d
  · subst e1
    rw [if_neg (by omega)]
    by_cases e2 : 0 ≤ i ∧ i ≤ 4
    · rw [if_pos ⟨rfl, e2⟩]
      rcases (by omega : i = 0 ∨ i = 1 ∨ i = 2 ∨ i = 3 ∨ i = 4) with h | h | h | h | h <;> subst h <;> simp [ms]
    · rw [if_neg (by omega), if_neg (by omega)]
      simp (disch := omega) only [ms_ni]
  · rw [if_neg (by omega : ¬ (c = d ∧ 0 ≤ i ∧ i ≤ 4))]
    simp (disch := omega) only [ms_nc]
theorem CR_tko {μ : Mem} {d s o : Int} {A : Int → Int} (h9 : A 2 ≤ 9) (h : CR μ s A o) : CR (tko μ d s) d A o := by
  obtain ⟨a, b, c, e, f⟩ := h
  refine ⟨?_, ?_, ?_, ?_, ?_⟩
  · rw [tko_at (by omega) (by omega)]; exact a
  · rw [tko_at (by omega) (by omega)]; exact b
  · rw [tko_at (by omega) (by omega)]; exact c
  · rw [tko_at (by omega) (by omega)]; exact e
  · intro l l1 l2
    rw [tko_in l1 (by omega)]
    exact f l l1 l2

/-- k numbers copied from one stretch into another one. -/
def cpr (ρ : Mem) (cd d cs s k : Int) : Mem := fun c j => if c = cd ∧ d ≤ j ∧ j < d + k then ρ cs (j - d + s) else ρ c j
theorem cpr_0 (ρ : Mem) (cd d cs s : Int) : cpr ρ cd d cs s 0 = ρ := by
  funext c j
  exact if_neg (by omega)
theorem cpr_nc {ρ : Mem} {cd d cs s k c j : Int} (h : c ≠ cd) : cpr ρ cd d cs s k c j = ρ c j := if_neg (fun e => h e.1)
theorem cpr_out {ρ : Mem} {cd d cs s k c j : Int} (h : j < d ∨ d + k ≤ j) : cpr ρ cd d cs s k c j = ρ c j := if_neg (by omega)
theorem cpr_in {ρ : Mem} {cd d cs s k j : Int} (h1 : d ≤ j) (h2 : j < d + k) : cpr ρ cd d cs s k cd j = ρ cs (j - d + s) := if_pos ⟨rfl, h1, h2⟩
theorem cpr_step {ρ : Mem} {cd d cs s k : Int} (hk : 0 ≤ k) (h : cs ≠ cd ∨ s + k < d ∨ d ≤ s) : ms (cpr ρ cd d cs s k) cd (d + k) (cpr ρ cd d cs s k cs (s + k)) = cpr ρ cd d cs s (k + 1) := by
  have e : cpr ρ cd d cs s k cs (s + k) = ρ cs (s + k) := if_neg (by omega)
  rw [e]
  funext c j
  unfold ms cpr
  by_cases a : c = cd
  · by_cases b : j = d + k
    · rw [if_pos ⟨a, b⟩, if_pos ⟨a, by omega, by omega⟩]
      congr 1
      omega
    · rw [if_neg (by omega)]
      by_cases b2 : d ≤ j ∧ j < d + k
      · rw [if_pos ⟨a, b2⟩, if_pos ⟨a, by omega, by omega⟩]
      · rw [if_neg (by omega), if_neg (by omega)]
  · rw [if_neg (by omega), if_neg (by omega), if_neg (by omega)]
theorem image_w {a : Int} {ρ : Mem} (ha : a = 0 ∨ a = 1) : ∀ (d k n : Nat), k + d = 1100 → d < n → f_X12_image_w20 n 111 a k (cpr ρ 112 (1100 * (a + 1)) 112 0 k) = some (0, ms (cpr ρ 112 (1100 * (a + 1)) 112 0 1100) 113 a 1) := by
  intro d
  induction d with
  | zero =>
    intro i n h1 h2
    obtain ⟨n, rfl⟩ : ∃ m, n = m + 1 := ⟨n - 1, by omega⟩
    have hi : (i : Int) = 1100 := by omega
    unfold f_X12_image_w20
    rw [hi, if_pos (Int.le_refl _), nrm_id (z := a) (by omega) (by omega), gd_pos (by omega), nm_eq]
    rfl
  | succ d ih =>
    intro i n h1 h2
    obtain ⟨n, rfl⟩ : ∃ m, n = m + 1 := ⟨n - 1, by omega⟩
    unfold f_X12_image_w20
    rw [nrm_id (z := 1100) (by omega) (by omega), nrm_id (z := (i : Int)) (by omega) (by omega), if_neg (by omega), gd_pos (by omega), nrm_id (z := 1100 * (a + 1) + (i : Int)) (by omega) (by omega), gd_pos (by omega), nm_eq]
    have := ih (i + 1) n (by omega) (by omega)
    rw [show ((i + 1 : Nat) : Int) = (i : Int) + 1 by omega, ← cpr_step (by omega) (by omega)] at this
    rw [Int.zero_add] at this
    exact this
theorem restore_w {a : Int} {ρ : Mem} (ha : a = 0 ∨ a = 1) : ∀ (d k n : Nat), k + d = 1100 → d < n → f_X12_restore_w32 n 111 a k (cpr ρ 112 0 112 (1100 * (a + 1)) k) = some (0, ms (cpr ρ 112 0 112 (1100 * (a + 1)) 1100) 112 68 0) := by
  intro d
  induction d with
  | zero =>
    intro i n h1 h2
    obtain ⟨n, rfl⟩ : ∃ m, n = m + 1 := ⟨n - 1, by omega⟩
    have hi : (i : Int) = 1100 := by omega
    unfold f_X12_restore_w32
    rw [hi, if_pos (Int.le_refl _), nm_eq]
    rfl
  | succ d ih =>
    intro i n h1 h2
    obtain ⟨n, rfl⟩ : ∃ m, n = m + 1 := ⟨n - 1, by omega⟩
    unfold f_X12_restore_w32
    rw [nrm_id (z := 1100) (by omega) (by omega), nrm_id (z := (i : Int)) (by omega) (by omega), if_neg (by omega), nrm_id (z := 1100 * (a + 1) + (i : Int)) (by omega) (by omega), gd_pos (by omega), gd_pos (by omega), nm_eq]
    have := ih (i + 1) n (by omega) (by omega)
    rw [show ((i + 1 : Nat) : Int) = (i : Int) + 1 by omega, ← cpr_step (by omega) (by omega)] at this
    rw [Int.zero_add] at this
    exact this
theorem pictureOf_eq {a : Int} (μ : Mem) (ha : nrm a = a) : f_X11_pictureOf 0 a μ = some (if 0 ≤ a ∧ a < 2 then 85 + 2 * a else -1, μ) := by
  unfold f_X11_pictureOf
  rw [ha, show nrm 2 = 2 from rfl]
  by_cases h1 : a < 0
  · rw [if_pos h1, if_neg (by omega)]
  · rw [if_neg h1]
    by_cases h2 : a < 2
    · rw [if_pos h2, gd_pos (by omega), if_pos (by omega)]
      simp only [Option.some.injEq, Prod.mk.injEq, and_true]
      omega
    · rw [if_neg h2, if_neg (by omega)]
theorem pic_k {a : Int} (h : a = 0 ∨ a = 1) : isK (85 + 2 * a) 0 := by
  rcases h with h | h <;> subst h
  · exact kk_85
  · exact kk_87
theorem made_jor {a p q : Int} (ha : a = 0 ∨ a = 1) (hp : p = 0 ∨ p = 1) (hq : q = 0 ∨ q = 1) : jor (p + 2 * q) (jshl 1 a) = if a = 0 then 1 + 2 * q else p + 2 := by
  rcases ha with rfl | rfl <;> rcases hp with rfl | rfl <;> rcases hq with rfl | rfl <;> decide
theorem made_bit {a p q : Int} (ha : a = 0 ∨ a = 1) (hp : p = 0 ∨ p = 1) (hq : q = 0 ∨ q = 1) : nrm (jand (jshr (p + 2 * q) a) 1) = if a = 0 then p else q := by
  rcases ha with rfl | rfl <;> rcases hp with rfl | rfl <;> rcases hq with rfl | rfl <;> decide
