theorem tyR_s {w : Int} {cd : Int → Int} {r : Nat} {k : Int} {ty t : List Bool} (h : tyR w cd (r + 1) k ty = some t) : ∃ ty', tyS w (cd k) ty = some ty' ∧ tyR w cd r (k + 1) ty' = some t := by
  unfold tyR at h
  exact Option.bind_eq_some_iff.mp h
theorem okS_one {s : List Int} {t : Bool} (h : okS s [t]) : ∃ v, s = [v] ∧ okV t v := by
  obtain ⟨v, s', rfl, h1, h2⟩ := okS_inv h
  cases s' with
  | nil => exact ⟨v, rfl, h1⟩
  | cons a b => exact h2.elim
theorem tell_r {X b w : Int} {cd ws : Int → Int} {t : Bool} (hk : isK X 4) (hw : w = 0 ∨ w = 1) (b9 : b ≤ 900) (hs : ∀ i, 0 ≤ i → i < 6 → -1000000 ≤ ws i ∧ ws i ≤ 1000000) :
    ∀ (r n : Nat) (k : Int) (μ : Mem) (s : List Int) (ty : List Bool), r < n → 0 ≤ k → k + r = b → StC X μ s → okS s ty → tyR w cd r k ty = some [t] → (∀ j, k ≤ j → j < b → μ (X + 1) j = phi (cd j)) → (∀ i, 0 ≤ i → i < 6 → μ (X + 4) i = ws i) →
    ∃ v μ', f_X4_tell_w60 n X b k μ = some (v, μ') ∧ evR ws cd r k s = [v] ∧ okV t v ∧ ScX X μ μ' := by
  intro r
  induction r with
  | zero =>
    intro n k μ s ty h1 h2 h3 h4 h5 h6 h7 h8
    obtain ⟨n, rfl⟩ : ∃ m, n = m + 1 := ⟨n - 1, by omega⟩
    unfold tyR at h6
    injection h6 with h6
    subst h6
    obtain ⟨v, rfl, h9⟩ := okS_one h5
    obtain ⟨m1, p1, p2, p3⟩ := pop_eq h4
    refine ⟨v, m1, ?_, rfl, h9, p3⟩
    rw [f_X4_tell_w60, nrm_id (z := b) (by omega) (by omega), nrm_id (z := k) (by omega) (by omega), if_pos (by omega), bn_eq p1]
  | succ r ih =>
    intro n k μ s ty h1 h2 h3 h4 h5 h6 h7 h8
    obtain ⟨n, rfl⟩ : ∃ m, n = m + 1 := ⟨n - 1, by omega⟩
    obtain ⟨ty', g1, g2⟩ := tyR_s h6
    obtain ⟨m1, p1, p2, p3⟩ := tell_s (n := n) (b := b) hk h4 h5 g1 hw h2 (by omega) b9 (h7 k (by omega) (by omega)) h8
    rw [p1]
    obtain ⟨v, m2, q1, q2, q3, q4⟩ := ih n (k + 1) m1 _ ty' (by omega) (by omega) (by omega) p2 (evS_ok hw hs g1 h5) g2
      (fun j j1 j2 => by rw [p3 _ _ (by omega) (by omega)]; exact h7 j (by omega) j2)
      (fun i i1 i2 => by rw [p3 _ _ (by omega) (by omega)]; exact h8 i i1 i2)
    exact ⟨v, m2, q1, q2, q3, ScX_tr p3 q4⟩
theorem tell_eq {X w F M : Int} {cd ws : Int → Int} {t : Bool} {μ : Mem} (hk : isK X 4) (hw : w = 0 ∨ w = 1) (hs : ∀ i, 0 ≤ i → i < 6 → -1000000 ≤ ws i ∧ ws i ≤ 1000000) (hF : μ (X + 2) w = F) (hT : μ (X + 3) w = F + M) (F0 : 0 ≤ F) (M0 : 0 ≤ M) (FM : F + M ≤ 900)
    (ht : tyR w cd M.toNat F [] = some [t]) (hc : ∀ j, F ≤ j → j < F + M → μ (X + 1) j = phi (cd j)) (hv : ∀ i, 0 ≤ i → i < 6 → μ (X + 4) i = ws i) :
    ∃ v μ', f_X4_tell X w μ = some (v, μ') ∧ evR ws cd M.toNat F [] = [v] ∧ okV t v ∧ ScX X μ μ' := by
  have hm : ∀ c i, ¬ (c = X ∧ i = 6) → ms μ X 6 0 c i = μ c i := fun c i h => if_neg h
  have hn : nrm w = w := nrm_id (by omega) (by omega)
  obtain ⟨v, m, q1, q2, q3, q4⟩ := tell_r (b := F + M) hk hw FM hs M.toNat FU F (ms μ X 6 0) [] [] (by unfold FU; omega) F0 (by omega) ⟨ms_eq _ _ _ _, by decide, trivial⟩ trivial ht
    (fun j j1 j2 => by rw [hm _ _ (by omega)]; exact hc j j1 j2) (fun i i1 i2 => by rw [hm _ _ (by omega)]; exact hv i i1 i2)
  refine ⟨v, m, ?_, q2, q3, ?_⟩
  · unfold f_X4_tell
    rw [nm_eq, hn, if_neg (by omega), if_pos (by show w < 2; omega), gd_pos (by omega), hm _ _ (by omega), hF]
    have e1 : ∀ μ, f_J9_max_7cf53 0 F μ = some (F, μ) := by
      intro μ
      unfold f_J9_max_7cf53
      rw [show nrm 0 = 0 from rfl, nrm_id (z := F) (by omega) (by omega)]
      split
      · rfl
      · rw [show (0 : Int) = F by omega]
    have e2 : ∀ μ, f_J9_min_7cf53 900 (F + M) μ = some (F + M, μ) := by
      intro μ
      unfold f_J9_min_7cf53
      rw [show nrm 900 = 900 from rfl, nrm_id (z := F + M) (by omega) (by omega)]
      split
      · rfl
      · rw [show (900 : Int) = F + M by omega]
    rw [bn_eq (e1 _)]
    unfold f_X4_tell_j28
    rw [hn, if_neg (by omega), if_pos (by show w < 2; omega), gd_pos (by omega), hm _ _ (by omega), hT, bn_eq (e2 _)]
    exact q1
  · intro c i e f
    rw [q4 c i e f, hm _ _ e]
