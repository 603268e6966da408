/-- A piece of a law that was read alike: its codes take so much room, and leave one of the sort. -/
def Gd (n : Int) (T : Int → Int) (La w N a : Int) (B : Nat) (b : Bool) (ρ μ' ρ' : Mem) : Prop := ∃ a' K' V' N', ES n T La w μ' ρ' a' K' V' N' ∧ N < N' ∧ N' - N ≤ a' - a ∧ (∀ j, 0 ≤ j → j < N → ρ' 115 (200 + j) = ρ 115 (200 + j)) ∧ (∀ s : List Bool, s.length + B ≤ 64 → tyR w (fun j => ρ' 115 (200 + j)) (N' - N).toNat N s = some (b :: s))
def Res (n : Int) (T : Int → Int) (La w N a : Int) (B : Nat) (b : Bool) (μ ρ : Mem) (f g : Option (Int × Mem)) : Prop := ∃ r μ' ρ', f = some (r, μ') ∧ g = some (0, ρ') ∧ FrE La μ μ' ∧ FrS ρ ρ' ∧ ((r = 1 ∧ Gd n T La w N a B b ρ μ' ρ') ∨ (r = 0 ∧ Bd μ' ρ'))
theorem bin {n La w : Int} {T : Int → Int} {B : Nat} {b : Bool} {F : Nat → Int → Int → Mem → Option (Int × Mem)} {G recC recR : Nat → Mem → Option (Int × Mem)} {op : Int → Option (Int × Int)}
    (hrec : ∀ μ ρ a K V N, ES n T La w μ ρ a K V N → Res n T La w N a B b μ ρ (recC 0 μ) (recR 0 ρ))
    (hF0 : ∀ m x3 μ, F (m + 1) 0 x3 μ = some (0, μ))
    (hFn : ∀ m x3 μ K, kOk K → μ 3 0 = cK K → 0 ≤ x3 → x3 < 900 → op K = none → F (m + 1) 1 x3 μ = some (1, μ))
    (hFs : ∀ m x3 μ K c x, kOk K → μ 3 0 = cK K → 0 ≤ x3 → x3 < 900 → op K = some (c, x) → ∀ r μ7 μ10 μ14, f_X9_advance 3 μ = some (0, μ7) → recC 0 μ7 = some (r, μ10) → μ10 2 1 = La → f_X4_addStep (La + 7) x 0 μ10 = some (0, μ14) → F (m + 1) 1 x3 μ = F m r (x3 + 1) μ14)
    (hGn : ∀ m ρ K, kOk K → ρ 111 9 = K → ρ 111 11 = 0 → op K = none → G (m + 1) ρ = some (0, ρ))
    (hGs : ∀ m ρ K c x, kOk K → ρ 111 9 = K → ρ 111 11 = 0 → op K = some (c, x) → ∀ ρ1 ρ5 ρ8, f_X12_next 111 ρ = some (0, ρ1) → recR 0 ρ1 = some (0, ρ5) → f_X12_codes 111 c ρ5 = some (0, ρ8) → G (m + 1) ρ = G m ρ8)
    (hGb : ∀ m ρ, 1 ≤ ρ 111 11 → ρ 111 11 ≤ 4 → G (m + 1) ρ = some (0, ρ))
    (hop : ∀ K c x, op K = some (c, x) → x * 1000 + 0 = phi c ∧ K ≠ 24 ∧ ∀ s, tyS w c (b :: b :: s) = some (b :: s)) :
    ∀ (e m m' : Nat) (x3 : Int) (μ ρ : Mem) (a K V N : Int), n - a ≤ e → e + 1 < m → e + 1 < m' → 0 ≤ x3 → x3 < a → ES n T La w μ ρ a K V N →
    ∃ r μ' ρ', F m 1 x3 μ = some (r, μ') ∧ G m' ρ = some (0, ρ') ∧ FrE La μ μ' ∧ FrS ρ ρ' ∧ ((r = 1 ∧ ∃ a' K' V' N', ES n T La w μ' ρ' a' K' V' N' ∧ N ≤ N' ∧ N' - N ≤ a' - a ∧ (∀ j, 0 ≤ j → j < N → ρ' 115 (200 + j) = ρ 115 (200 + j)) ∧ (∀ s : List Bool, s.length + 1 + B ≤ 64 → tyR w (fun j => ρ' 115 (200 + j)) (N' - N).toNat N (b :: s) = some (b :: s))) ∨ (r = 0 ∧ Bd μ' ρ')) := by
  have key : ∀ (e m m' : Nat) (x3 : Int) (μ ρ : Mem) (a K V N : Int), n - a ≤ e → e + 1 < m → e + 1 < m' → 0 ≤ x3 → x3 < a → ES n T La w μ ρ a K V N → op K = none →
      ∃ r μ' ρ', F m 1 x3 μ = some (r, μ') ∧ G m' ρ = some (0, ρ') ∧ FrE La μ μ' ∧ FrS ρ ρ' ∧ ((r = 1 ∧ ∃ a' K' V' N', ES n T La w μ' ρ' a' K' V' N' ∧ N ≤ N' ∧ N' - N ≤ a' - a ∧ (∀ j, 0 ≤ j → j < N → ρ' 115 (200 + j) = ρ 115 (200 + j)) ∧ (∀ s : List Bool, s.length + 1 + B ≤ 64 → tyR w (fun j => ρ' 115 (200 + j)) (N' - N).toNat N (b :: s) = some (b :: s))) ∨ (r = 0 ∧ Bd μ' ρ')) := by
    intro e m m' x3 μ ρ a K V N ha hm hm' x0 xa hE hn
    obtain ⟨m, rfl⟩ : ∃ q, m = q + 1 := ⟨m - 1, by omega⟩
    obtain ⟨m', rfl⟩ : ∃ q, m' = q + 1 := ⟨m' - 1, by omega⟩
    obtain ⟨⟨p1, p2, p3, p4, p5, p6, p7, p8, p9, p10⟩, h2, _⟩ := id hE
    have n9 := p1.2.1
    clear p10
    refine ⟨1, μ, ρ, hFn m x3 μ K p4 p5 x0 (by omega) hn, hGn m' ρ K p4 p9 h2 hn, FrE_rf, FrS_rf, .inl ⟨rfl, a, K, V, N, hE, by omega, by omega, fun _ _ _ => rfl, fun s _ => ?_⟩⟩
    rw [show (N - N).toNat = 0 by omega]
    rfl
  intro e
  induction e with
  | zero =>
    intro m m' x3 μ ρ a K V N ha hm hm' x0 xa hE
    refine key 0 m m' x3 μ ρ a K V N ha hm hm' x0 xa hE ?_
    obtain ⟨⟨p1, p2, p3, p4, p5, p6, p7, p8, p9, p10⟩, h2, _⟩ := id hE
    cases ho : op K with
    | none => rfl
    | some y =>
      exfalso
      obtain ⟨c, x⟩ := y
      obtain ⟨d, j, e, e1, e2, _⟩ := p10 (hop K c x ho).2.1
      clear p10
      omega
  | succ e ih =>
    intro m m' x3 μ ρ a K V N ha hm hm' x0 xa hE
    cases ho : op K with
    | none => exact key (e + 1) m m' x3 μ ρ a K V N ha hm hm' x0 xa hE ho
    | some y =>
      obtain ⟨c, x⟩ := y
      obtain ⟨o1, o2, o3⟩ := hop K c x ho
      obtain ⟨m, rfl⟩ : ∃ q, m = q + 1 := ⟨m - 1, by omega⟩
      obtain ⟨m', rfl⟩ : ∃ q, m' = q + 1 := ⟨m' - 1, by omega⟩
      obtain ⟨⟨p1, p2, p3, p4, p5, p6, p7, p8, p9, p10⟩, h2, h3, h4, _⟩ := id hE
      have n9 := p1.2.1
      clear p10
      obtain ⟨μ1, ρ1, a1, K1, V1, s1, s2, s3, s4, s5, s6, s7⟩ := ES_step hE o2
      obtain ⟨r, μ2, ρ2, r1, r2, r3, r4, r5⟩ := hrec μ1 ρ1 a1 K1 V1 N s7
      have hLa : μ2 2 1 = La := by rw [r3 2 1 (by decide) (by decide) (by have := h4; unfold isL at this; omega) (by have := h4; unfold isL at this; omega)]; exact s7.2.2.1
      rcases r5 with ⟨rfl, a2, K2, V2, N2, g1, g2, g3, g4, g5⟩ | ⟨rfl, hb⟩
      · obtain ⟨μ3, ρ3, c1, c2, c3, c4, c5, c6, c7, _⟩ := ES_code (c := c) (x := x) (y := 0) g1 (.inl (by omega)) o1
        have hE3 := c7 (by omega)
        have e1 := hFs m x3 μ K c x p4 p5 x0 (by omega) ho 1 μ1 μ2 μ3 s1 r1 hLa c1
        have e2 := hGs m' ρ K c x p4 p9 h2 ho ρ1 ρ2 ρ3 s2 r2 c2
        obtain ⟨r', μ', ρ', y1, y2, y3, y4, y5⟩ := ih m m' (x3 + 1) μ3 ρ3 a2 K2 V2 (N2 + 1) (by omega) (by omega) (by omega) (by omega) (by omega) hE3
        refine ⟨r', μ', ρ', by rw [e1]; exact y1, by rw [e2]; exact y2, FrE_tr s3 (FrE_tr r3 (FrE_tr c3 y3)), FrS_tr s4 (FrS_tr r4 (FrS_tr c4 y4)), ?_⟩
        rcases y5 with ⟨z0, a', K', V', N', z1, z2, z3, z4, z5⟩ | z
        · have n0 := hE.2.2.2.2.2.2.2.1
          refine .inl ⟨z0, a', K', V', N', z1, by omega, by omega, fun j j0 j1 => ?_, fun s hs => ?_⟩
          · rw [z4 j j0 (by omega), c5 j j0 (by omega), g4 j j0 j1, s5]
          · have t1 : tyR w (fun j => ρ' 115 (200 + j)) (N2 - N).toNat N (b :: s) = some (b :: b :: s) := by
              rw [tyR_cg2 (cd' := fun j => ρ2 115 (200 + j)) _ _ _ (fun i i0 i1 => by rw [z4 i (by omega) (by omega), c5 i (by omega) (by omega)])]
              exact g5 (b :: s) (by simp only [List.length_cons]; omega)
            have t2 : tyR w (fun j => ρ' 115 (200 + j)) (N2 + 1 - N2).toNat N2 (b :: b :: s) = some (b :: s) := by
              refine ty_one ?_
              rw [z4 N2 (by omega) (by omega), c6]
              exact o3 s
            exact ty_seq (by omega) (by omega) (ty_seq (by omega) (by omega) t1 t2) (z5 s hs)
        · exact .inr z
      · obtain ⟨μ3, c1, c2, c3⟩ := add_ex (x := x) (y := 0) (μ := μ2) h4
        have e1 := hFs m x3 μ K c x p4 p5 x0 (by omega) ho 0 μ1 μ2 μ3 s1 r1 hLa c1
        have e2 := hGs m' ρ K c x p4 p9 h2 ho ρ1 ρ2 ρ2 s2 r2 (codes_no hb.1 hb.2.1)
        obtain ⟨m, rfl⟩ : ∃ q, m = q + 1 := ⟨m - 1, by omega⟩
        obtain ⟨m', rfl⟩ : ∃ q, m' = q + 1 := ⟨m' - 1, by omega⟩
        refine ⟨0, μ3, ρ2, by rw [e1, hF0], by rw [e2, hGb m' ρ2 hb.1 hb.2.1], FrE_tr s3 (FrE_tr r3 c2), FrS_tr s4 r4, .inr ⟨rfl, ?_⟩⟩
        unfold Bd
        rw [c3, c3]
        exact hb
