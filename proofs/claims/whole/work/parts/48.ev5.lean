theorem tyS_len {w c : Int} {ty ty' : List Bool} (h : tyS w c ty = some ty') (h64 : ty.length ≤ 64) : ty'.length ≤ 64 := by
  rcases tyS_c h with ⟨_, _, a, e⟩ | ⟨_, _, a, e⟩ | ⟨_, _, t, e1, e⟩ | ⟨_, _, t, e1, e⟩ | ⟨_, t, e1, e⟩ | ⟨_, t, e1, e⟩ | ⟨_, t, e1, e⟩
  · subst e; simp only [List.length_cons]; omega
  · subst e; simp only [List.length_cons]; omega
  all_goals (subst e1; subst e; simp only [List.length_cons] at h64 ⊢; omega)
theorem rk_r {w F M : Int} {cd ws : Int → Int} {t : Bool} (hw : w = 0 ∨ w = 1) (F0 : 0 ≤ F) (FM : F + M ≤ 900) (hs : ∀ i, 0 ≤ i → i < 6 → -1000000 ≤ ws i ∧ ws i ≤ 1000000) :
    ∀ (r n : Nat) (k m : Int) (ρ : Mem) (s : List Int) (ty : List Bool), r < n → 0 ≤ k → k + r = M → stk (ρ 116) s → okS s ty → ty.length ≤ 64 → m = s.length → tyR w cd r (F + k) ty = some [t] → ρ 112 (7 + w) = F → ρ 112 (9 + w) = M → (∀ j, F ≤ j → j < F + M → ρ 112 (200 + j) = cd j) → (∀ i, 0 ≤ i → i < 6 → ρ 117 i = ws i) →
    ∃ v ρ', f_X12_reckons_w71 n 111 w m k ρ = some (v, ρ') ∧ evR ws cd r (F + k) s = [v] ∧ okV t v ∧ ScM ρ ρ' := by
  intro r
  induction r with
  | zero =>
    intro n k m ρ s ty h1 h2 h3 h4 h5 h64 hm h6 hF hM h7 h8
    obtain ⟨n, rfl⟩ : ∃ m, n = m + 1 := ⟨n - 1, by omega⟩
    unfold tyR at h6
    injection h6 with h6
    subst h6
    obtain ⟨v, rfl, h9⟩ := okS_one h5
    refine ⟨v, ρ, ?_, rfl, h9, fun _ _ _ => rfl⟩
    rw [f_X12_reckons_w71]
    simp only [Int.reduceAdd]
    rw [nrm_id (z := 9 + w) (by omega) (by omega), gd_pos (by omega), hM, nrm_id (z := M) (by omega) (by omega), nrm_id (z := k) (by omega) (by omega), if_pos (by omega)]
    have : ρ 116 0 = v := h4.1
    rw [this]
  | succ r ih =>
    intro n k m ρ s ty h1 h2 h3 h4 h5 h64 hm h6 hF hM h7 h8
    obtain ⟨n, rfl⟩ : ∃ m, n = m + 1 := ⟨n - 1, by omega⟩
    obtain ⟨ty', g1, g2⟩ := tyR_s h6
    have hl := okS_len h5
    obtain ⟨m', m1, p1, p0, p2, p3⟩ := rk_s (n := n) h4 h5 (by omega) g1 hw h2 (by omega) hF hM F0 FM (h7 _ (by omega) (by omega)) h8 hm
    rw [p1]
    rw [Int.add_assoc] at g2
    obtain ⟨v, m2, q1, q2, q3, q4⟩ := ih n (k + 1) m' m1 _ ty' (by omega) (by omega) (by omega) p2 (evS_ok hw hs g1 h5) (tyS_len g1 h64) p0 g2
      (by rw [p3 _ _ (by decide)]; exact hF) (by rw [p3 _ _ (by decide)]; exact hM)
      (fun j j1 j2 => by rw [p3 _ _ (by decide)]; exact h7 j j1 j2)
      (fun i i1 i2 => by rw [p3 _ _ (by decide)]; exact h8 i i1 i2)
    refine ⟨v, m2, q1, ?_, q3, fun c i h => (q4 c i h).trans (p3 c i h)⟩
    rw [← q2, evR, Int.add_assoc]
def bcM (z : Int) : Int :=
  let v1 := z - (jand (jushr z 1) 1431655765)
  let v3 := (jand v1 858993459) + (jand (jushr v1 2) 858993459)
  let v5 := jand (v3 + (jushr v3 4)) 252645135
  let v7 := v5 + (jushr v5 8)
  let v9 := v7 + (jushr v7 16)
  jand v9 63
theorem bitCount_eq (z : Int) (μ : Mem) : f_J6_bitCount_0f7a4 z μ = some (bcM z, μ) := rfl
def boM (z : Int) : Int := sumTo (fun k => jand (jshr z k) 1) 9
theorem bitsOf_w {z : Int} (μ : Mem) : ∀ (d k n : Nat), k + d = 9 → d < n → ∀ s, f_X12_bitsOf_w4 n z s k μ = some (s + sumTo (fun j => jand (jshr z (k + j)) 1) d, μ) := by
  intro d
  induction d with
  | zero =>
    intro k n h1 h2 s
    obtain ⟨n, rfl⟩ : ∃ m, n = m + 1 := ⟨n - 1, by omega⟩
    rw [f_X12_bitsOf_w4, nrm_id (z := (k : Int)) (by omega) (by omega), if_pos (by show (9 : Int) ≤ k; omega)]
    simp [sumTo]
  | succ d ih =>
    intro k n h1 h2 s
    obtain ⟨n, rfl⟩ : ∃ m, n = m + 1 := ⟨n - 1, by omega⟩
    rw [f_X12_bitsOf_w4, nrm_id (z := (k : Int)) (by omega) (by omega), if_neg (by show ¬ ((9 : Int) ≤ k); omega), nm_eq]
    have := ih (k + 1) n (by omega) (by omega) (s + jand (jshr z k) 1)
    rw [show ((k + 1 : Nat) : Int) = (k : Int) + 1 by omega] at this
    rw [this, ← sumTo_shift (fun j => jand (jshr z (↑k + j)) 1) d]
    simp only [Int.add_assoc, Int.add_zero]
theorem bitsOf_eq (z : Int) (μ : Mem) : f_X12_bitsOf z μ = some (boM z, μ) := by
  have := bitsOf_w (z := z) μ 9 0 FU (by omega) (by unfold FU; omega) 0
  simpa [f_X12_bitsOf, boM] using this
theorem bits_all : ∀ z : Fin 512, bcM (z.val : Int) = boM (z.val : Int) ∧ 0 ≤ boM (z.val : Int) ∧ boM (z.val : Int) ≤ 9 := by decide +kernel
theorem bits_eq {z : Int} (h1 : 0 ≤ z) (h2 : z < 512) : bcM z = boM z ∧ 0 ≤ boM z ∧ boM z ≤ 9 := by
  have := bits_all ⟨z.toNat, by omega⟩
  simp only [Int.toNat_of_nonneg h1] at this
  exact this
