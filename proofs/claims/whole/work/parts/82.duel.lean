/-- Whether one of the lanes from l on, the first of them. -/
def fsL (f : Int → Bool) : Nat → Int → Int
  | 0, _ => -1
  | d + 1, l => if f l = true then l else fsL f d (l + 1)
theorem fsL_in {f : Int → Bool} : ∀ (d : Nat) (l : Int), fsL f d l = -1 ∨ (l ≤ fsL f d l ∧ fsL f d l < l + d ∧ f (fsL f d l) = true)
  | 0, _ => .inl rfl
  | d + 1, l => by
    unfold fsL
    by_cases e : f l = true
    · rw [if_pos e]; exact .inr ⟨Int.le_refl _, by omega, e⟩
    · rw [if_neg e]
      rcases fsL_in (f := f) d (l + 1) with q | ⟨q1, q2, q3⟩
      · exact .inl q
      · exact .inr ⟨by omega, by omega, q3⟩
theorem fsL_no {f : Int → Bool} : ∀ (d : Nat) (l k : Int), 0 ≤ l → l ≤ k → k < l + d → f k = true → fsL f d l ≠ -1
  | 0, l, k, _, h1, h2, _ => by omega
  | d + 1, l, k, l0, h1, h2, h3 => by
    unfold fsL
    by_cases e : f l = true
    · rw [if_pos e]; omega
    · rw [if_neg e]
      have : k ≠ l := fun q => e (q ▸ h3)
      exact fsL_no d (l + 1) k (by omega) (by omega) (by omega) h3
theorem fsL_cg {f g : Int → Bool} : ∀ (d : Nat) (l : Int), (∀ k, l ≤ k → k < l + d → f k = g k) → fsL f d l = fsL g d l
  | 0, _, _ => rfl
  | d + 1, l, h => by
    unfold fsL
    rw [h l (by omega) (by omega), fsL_cg d (l + 1) (fun k h1 h2 => h k (by omega) (by omega))]
/-- Whether the one who is on wins, at a place, behind lanes gone by. -/
def gW (A : Int → Int) : Nat → Int → Int → Bool
  | 0, _, _ => false
  | r + 1, k, gone => decide (fsL (fun l => decide (oeM A l k ≠ -1 ∧ tb gone l = false ∧ openM A l = 1 ∧ gW A r (oeM A l k) (jor gone (jshl 1 l)) = false)) (A 2).toNat 0 ≠ -1)
def WG (A : Int → Int) (k gone : Int) : Bool := gW A (10 - boM gone).toNat k gone
def BG (A : Int → Int) (k gone l : Int) : Bool := decide (oeM A l k ≠ -1 ∧ tb gone l = false ∧ openM A l = 1 ∧ WG A (oeM A l k) (jor gone (jshl 1 l)) = false)
theorem sumTo_up2 {f g : Int → Int} {b x : Int} {d : Nat} (h0 : 0 ≤ b) (h1 : b < d) (h2 : ∀ j, 0 ≤ j → j ≠ b → g j = f j) (h3 : g b = f b + x) : sumTo g d = sumTo f d + x := by
  have e : sumTo g d = sumTo (fun j => if j = b then f b + x else f j) d := sumTo_cg (fun j j0 _ => by
    by_cases q : j = b
    · rw [if_pos q, q, h3]
    · rw [if_neg q, h2 j j0 q])
  rw [e]
  exact sumTo_upd h0 h1 (fun j hj => if_neg hj) (if_pos rfl)
theorem tb_le {x y : Int} (x0 : 0 ≤ x) (y0 : 0 ≤ y) (h : ∀ j, 0 ≤ j → tb x j = true → tb y j = true) : x ≤ y := by
  have e : x.toNat &&& y.toNat = x.toNat := by
    apply Nat.eq_of_testBit_eq
    intro i
    rw [Nat.testBit_and]
    have := h i (by omega)
    unfold tb at this
    rw [Int.toNat_natCast] at this
    cases q : x.toNat.testBit i
    · rfl
    · rw [this q]; rfl
  have := Nat.and_le_right (n := x.toNat) (m := y.toNat)
  omega
theorem bo_or {x l : Int} (x0 : 0 ≤ x) (x1 : x < 512) (l0 : 0 ≤ l) (l9 : l < 9) (h : tb x l = false) : (0 ≤ jor x (jshl 1 l) ∧ jor x (jshl 1 l) < 512) ∧ x < jor x (jshl 1 l) ∧ boM (jor x (jshl 1 l)) = boM x + 1 := by
  obtain ⟨j1, j2, j3⟩ := jor_tb (x := x) (k := l) x0 (by omega) l0 (by omega)
  have j9 := j3 9 x1 (by omega)
  have hb : boM (jor x (jshl 1 l)) = boM x + 1 := by
    rw [bo_tb j1 (by omega), bo_tb x0 x1]
    refine sumTo_up2 (b := l) l0 l9 ?_ ?_
    · intro k k0 hk
      rw [j2 k k0, decide_eq_false hk, Bool.or_false]
    · rw [j2 l l0, h, decide_eq_true rfl]; rfl
  have le := tb_le x0 j1 (fun j j0 q => by rw [j2 j j0, q]; rfl)
  have ne : x ≠ jor x (jshl 1 l) := fun q => by rw [← q] at hb; omega
  exact ⟨⟨j1, by omega⟩, by omega, hb⟩
theorem WG_rec {A : Int → Int} {k gone : Int} (L9 : A 2 ≤ 9) (g0 : 0 ≤ gone) (g1 : gone < 512) : WG A k gone = decide (fsL (BG A k gone) (A 2).toNat 0 ≠ -1) := by
  have hb := bits_eq g0 g1
  unfold WG
  obtain ⟨r, hr⟩ : ∃ r : Nat, (10 - boM gone).toNat = r + 1 := ⟨(10 - boM gone).toNat - 1, by omega⟩
  rw [hr]
  unfold gW
  apply decide_eq_decide.mpr
  have e : fsL (fun l => decide (oeM A l k ≠ -1 ∧ tb gone l = false ∧ openM A l = 1 ∧ gW A r (oeM A l k) (jor gone (jshl 1 l)) = false)) (A 2).toNat 0 = fsL (BG A k gone) (A 2).toNat 0 := by
    apply fsL_cg
    intro l l0 l1
    unfold BG
    apply decide_eq_decide.mpr
    by_cases t : tb gone l = false
    · have := (bo_or g0 g1 l0 (by omega) t).2.2
      unfold WG
      rw [this, show (10 - (boM gone + 1)).toNat = r by omega]
    · exact ⟨fun q => absurd q.2.1 t, fun q => absurd q.2.1 t⟩
  rw [e]
theorem leads_eq {La o u l p : Int} {A : Int → Int} {μ : Mem} (hL : isL La) (hR : LR μ La A) (o0 : 0 ≤ o) (o1 : o < 512) (ho : ∀ l, 0 ≤ l → tb o l = decide (l < A 2 ∧ openM A l = 1)) (u0 : 0 ≤ u) (u1 : u < jshl 1 (A 2)) (l0 : 0 ≤ l) (l1 : l < A 2) (p0 : 0 ≤ p) (p7 : p < 7)
    (hw : ∀ v k, u < v → v < jshl 1 (A 2) → 0 ≤ k → k < 7 → 0 ≤ μ 107 v ∧ μ 107 v < 2 ^ 7 ∧ tb (μ 107 v) k = WG A k v) : f_X1_leadsToLoss 106 La o u l p μ = some (b2i (BG A p u l), μ) := by
  obtain ⟨⟨_, K1, K7⟩, ⟨g2, g20, g29⟩, _⟩ := id hR
  have hJL := jshl_L g20 g29
  have hoe := oeM_in (k := p) hR l0 l1
  obtain ⟨j1, j2, j3⟩ := jor_tb (x := u) (k := l) u0 (by omega) l0 (by omega)
  have j9 := j3 9 (by omega) (by omega)
  obtain ⟨al1, al2, al3, al4⟩ := all_is g20 g29
  unfold f_X1_leadsToLoss BG
  rw [gd_pos (isL_k hL), bn_eq (otherEnd_c hR l0 l1 (nrm_id (by omega) (by omega))), nm_eq, nrm_id (z := oeM A l p) (by omega) (by omega), show nrm (-1) = -1 from rfl, nrm_id (z := jor u (jshl 1 l)) (by omega) (by omega), nrm_id (z := u) (by omega) (by omega), jbit o0 (by omega) l0 (by omega), show nrm 512 = 512 from rfl]
  by_cases e1 : oeM A l p = -1
  · rw [if_pos e1, decide_eq_false (fun q => q.1 e1)]; rfl
  · rw [if_neg e1]
    by_cases e2 : tb u l = true
    · have : jor u (jshl 1 l) = u := by
        apply tb_ext j1 u0
        intro k k0
        rw [j2 k k0]
        by_cases q : k = l
        · rw [q, e2]; rfl
        · rw [decide_eq_false q, Bool.or_false]
      rw [if_pos this, decide_eq_false (fun q => by rw [e2] at q; exact absurd q.2.1 (by decide))]; rfl
    · have e2' : tb u l = false := by rw [Bool.not_eq_true] at e2; exact e2
      obtain ⟨b1, b2, b3⟩ := bo_or u0 (by omega) l0 (by omega) e2'
      rw [if_neg (by omega), ho l l0]
      by_cases e3 : openM A l = 1
      · have blt : jor u (jshl 1 l) < jshl 1 (A 2) := by
          have hp := pow_cast (A 2).toNat
          have := j3 (A 2).toNat (by omega) (by omega)
          omega
        obtain ⟨w1, w2, w3⟩ := hw (jor u (jshl 1 l)) (oeM A l p) b2 blt (by omega) (by omega)
        rw [decide_eq_true ⟨l1, e3⟩, if_pos (rfl : true = true), if_neg (by decide : ¬ nrm 1 = 0), if_neg (by omega), if_pos (by omega), gd_pos (by omega), show (106 + 1 : Int) = 107 from rfl, jbit w1 (by omega) (by omega) (by omega), w3]
        cases q : WG A (oeM A l p) (jor u (jshl 1 l))
        · rw [if_neg (by decide : ¬ false = true), if_pos (by decide : nrm 0 = 0), decide_eq_true ⟨e1, e2', e3, rfl⟩]; rfl
        · rw [if_pos (rfl : true = true), if_neg (by decide : ¬ nrm 1 = 0), decide_eq_false (fun x => absurd x.2.2.2 (by decide))]; rfl
      · rw [decide_eq_false (fun q => e3 q.2), if_neg (by decide : ¬ false = true), if_pos (by decide : nrm 0 = 0), decide_eq_false (fun q => e3 q.2.2.1)]; rfl
theorem won_w {La o u : Int} {A : Int → Int} {μ : Mem} (hL : isL La) (hR : LR μ La A) (o0 : 0 ≤ o) (o1 : o < 512) (ho : ∀ l, 0 ≤ l → tb o l = decide (l < A 2 ∧ openM A l = 1)) (u0 : 0 ≤ u) (u1 : u < jshl 1 (A 2))
    (hw : ∀ v k, u < v → v < jshl 1 (A 2) → 0 ≤ k → k < 7 → 0 ≤ μ 107 v ∧ μ 107 v < 2 ^ 7 ∧ tb (μ 107 v) k = WG A k v) :
    ∀ (d n : Nat) (l x : Int), 0 ≤ l → l + d = A 2 → d < n → 0 ≤ x → x < 2 ^ 7 → ∃ v, f_X1_wonBehind_w6 n 106 La o u x l μ = some (v, μ) ∧ 0 ≤ v ∧ v < 2 ^ 7 ∧ (∀ k, 0 ≤ k → k < 7 → (tb v k = true ↔ (tb x k = true ∨ ∃ m, l ≤ m ∧ m < A 2 ∧ BG A k u m = true))) := by
  obtain ⟨⟨_, K1, K7⟩, ⟨g2, g20, g29⟩, _, _, _, g6, _⟩ := id hR
  intro d
  induction d with
  | zero =>
    intro n l x l0 ld hn x0 x1
    obtain ⟨n, rfl⟩ : ∃ q, n = q + 1 := ⟨n - 1, by omega⟩
    refine ⟨x, ?_, x0, x1, ?_⟩
    · rw [f_X1_wonBehind_w6, gd_pos (isL_k hL), g2, nrm_id (z := A 2) (by omega) (by omega), nrm_id (z := l) (by omega) (by omega), if_pos (by omega)]
    · intro k k0 k7
      constructor
      · intro q; exact .inl q
      · intro q
        rcases q with q | ⟨m, m1, m2, _⟩
        · exact q
        · omega
  | succ d ih =>
    intro n l x l0 ld hn x0 x1
    obtain ⟨n, rfl⟩ : ∃ q, n = q + 1 := ⟨n - 1, by omega⟩
    obtain ⟨a1, a2, a3, b1, b2, b3, ne, _⟩ := g6 l l0 (by omega)
    have q1 := leads_eq hL hR o0 o1 ho u0 u1 l0 (by omega) a2 (by omega : A (11 + l) < 7) hw
    have q2 := leads_eq hL hR o0 o1 ho u0 u1 l0 (by omega) b2 (by omega : A (20 + l) < 7) hw
    -- the numbers behind one, and behind both
    obtain ⟨i1, i2, i3⟩ := jor_tb (x := x) (k := A (11 + l)) x0 (by omega) a2 (by omega)
    have hx1 : 0 ≤ (if BG A (A (11 + l)) u l = true then jor x (jshl 1 (A (11 + l))) else x) ∧ (if BG A (A (11 + l)) u l = true then jor x (jshl 1 (A (11 + l))) else x) < 2 ^ 7 ∧ (∀ k, 0 ≤ k → (tb (if BG A (A (11 + l)) u l = true then jor x (jshl 1 (A (11 + l))) else x) k = true ↔ (tb x k = true ∨ (k = A (11 + l) ∧ BG A (A (11 + l)) u l = true)))) := by
      by_cases e : BG A (A (11 + l)) u l = true
      · rw [if_pos e]
        refine ⟨i1, i3 7 x1 (by omega), ?_⟩
        intro k k0
        rw [i2 k k0, Bool.or_eq_true, decide_eq_true_iff]
        exact ⟨fun q => q.elim .inl (fun z => .inr ⟨z, e⟩), fun q => q.elim .inl (fun z => .inr z.1)⟩
      · rw [if_neg e]
        refine ⟨x0, x1, fun k _ => ⟨.inl, fun q => q.elim id (fun z => absurd z.2 e)⟩⟩
    generalize hX1 : (if BG A (A (11 + l)) u l = true then jor x (jshl 1 (A (11 + l))) else x) = X1 at hx1
    obtain ⟨y1, y2, y3⟩ := hx1
    obtain ⟨j1, j2, j3⟩ := jor_tb (x := X1) (k := A (20 + l)) y1 (by omega) b2 (by omega)
    have hx2 : 0 ≤ (if BG A (A (20 + l)) u l = true then jor X1 (jshl 1 (A (20 + l))) else X1) ∧ (if BG A (A (20 + l)) u l = true then jor X1 (jshl 1 (A (20 + l))) else X1) < 2 ^ 7 ∧ (∀ k, 0 ≤ k → (tb (if BG A (A (20 + l)) u l = true then jor X1 (jshl 1 (A (20 + l))) else X1) k = true ↔ (tb X1 k = true ∨ (k = A (20 + l) ∧ BG A (A (20 + l)) u l = true)))) := by
      by_cases e : BG A (A (20 + l)) u l = true
      · rw [if_pos e]
        refine ⟨j1, j3 7 y2 (by omega), ?_⟩
        intro k k0
        rw [j2 k k0, Bool.or_eq_true, decide_eq_true_iff]
        exact ⟨fun q => q.elim .inl (fun z => .inr ⟨z, e⟩), fun q => q.elim .inl (fun z => .inr z.1)⟩
      · rw [if_neg e]
        refine ⟨y1, y2, fun k _ => ⟨.inl, fun q => q.elim id (fun z => absurd z.2 e)⟩⟩
    generalize hX2 : (if BG A (A (20 + l)) u l = true then jor X1 (jshl 1 (A (20 + l))) else X1) = X2 at hx2
    obtain ⟨z1, z2, z3⟩ := hx2
    obtain ⟨v, v1, v2, v3, v4⟩ := ih n (l + 1) X2 (by omega) (by omega) (by omega) z1 z2
    refine ⟨v, ?_, v2, v3, ?_⟩
    · have j55 : ∀ y, f_X1_wonBehind_j55 (f_X1_wonBehind_w6 n) 106 La o u y l μ = f_X1_wonBehind_w6 n 106 La o u (if BG A (A (20 + l)) u l = true then jor y (jshl 1 (A (20 + l))) else y) (l + 1) μ := by
        intro y
        unfold f_X1_wonBehind_j55 f_X1_wonBehind_j88
        rw [gd_pos (isL_k hL), nrm_id (z := l) (by omega) (by omega), gd_pos (by omega), b1, bn_eq q2, gd_pos (by omega), b1, nm_eq]
        cases BG A (A (20 + l)) u l <;> rfl
      rw [f_X1_wonBehind_w6, gd_pos (isL_k hL), g2, nrm_id (z := A 2) (by omega) (by omega), nrm_id (z := l) (by omega) (by omega), if_neg (by omega), if_neg (by show ¬ ((9 : Int) ≤ l); omega), gd_pos (by omega), a1, bn_eq q1, gd_pos (by omega), a1, nm_eq, j55, j55, ← v1, ← hX2, ← hX1]
      cases BG A (A (11 + l)) u l <;> rfl
    · intro k k0 k7
      rw [v4 k k0 k7, z3 k k0, y3 k k0]
      have bgk : BG A k u l = true → k = A (11 + l) ∨ k = A (20 + l) := by
        intro q
        unfold BG at q
        have := (of_decide_eq_true q).1
        unfold oeM at this
        by_cases e : A (11 + l) = k
        · exact .inl e.symm
        · rw [if_neg e] at this
          by_cases e2 : A (20 + l) = k
          · exact .inr e2.symm
          · rw [if_neg e2] at this; exact absurd rfl this
      constructor
      · rintro (((q | ⟨q, q'⟩) | ⟨q, q'⟩) | ⟨m, m1, m2, m3⟩)
        · exact .inl q
        · exact .inr ⟨l, Int.le_refl _, by omega, by rw [q]; exact q'⟩
        · exact .inr ⟨l, Int.le_refl _, by omega, by rw [q]; exact q'⟩
        · exact .inr ⟨m, by omega, m2, m3⟩
      · rintro (q | ⟨m, m1, m2, m3⟩)
        · exact .inl (.inl (.inl q))
        · by_cases e : m = l
          · subst e
            rcases bgk m3 with q | q
            · exact .inl (.inl (.inr ⟨q, by rw [← q]; exact m3⟩))
            · exact .inl (.inr ⟨q, by rw [← q]; exact m3⟩)
          · exact .inr ⟨m, by omega, m2, m3⟩
theorem won_eq {La o u : Int} {A : Int → Int} {μ : Mem} (hL : isL La) (hR : LR μ La A) (o0 : 0 ≤ o) (o1 : o < 512) (ho : ∀ l, 0 ≤ l → tb o l = decide (l < A 2 ∧ openM A l = 1)) (u0 : 0 ≤ u) (u1 : u < jshl 1 (A 2))
    (hw : ∀ v k, u < v → v < jshl 1 (A 2) → 0 ≤ k → k < 7 → 0 ≤ μ 107 v ∧ μ 107 v < 2 ^ 7 ∧ tb (μ 107 v) k = WG A k v) : ∃ v, f_X1_wonBehind 106 La o u μ = some (v, μ) ∧ 0 ≤ v ∧ v < 2 ^ 7 ∧ (∀ k, 0 ≤ k → k < 7 → tb v k = WG A k u) := by
  have h2 := hR.2.1
  have hJL := jshl_L h2.2.1 h2.2.2
  obtain ⟨v, v1, v2, v3, v4⟩ := won_w hL hR o0 o1 ho u0 u1 hw (A 2).toNat FU 0 0 (by decide) (by omega) (by unfold FU; omega) (by decide) (by decide)
  refine ⟨v, v1, v2, v3, ?_⟩
  intro k k0 k7
  have z : tb 0 k = false := by unfold tb; simp
  have hi := v4 k k0 k7
  rw [z] at hi
  rw [WG_rec h2.2.2 u0 (by omega)]
  by_cases e : fsL (BG A k u) (A 2).toNat 0 = -1
  · rw [decide_eq_false (fun q => q e)]
    cases q : tb v k
    · rfl
    · rcases hi.mp q with x | ⟨m, m1, m2, m3⟩
      · cases x
      · exact absurd e (fsL_no (A 2).toNat 0 m (by decide) m1 (by omega) m3)
  · rw [decide_eq_true e]
    rcases fsL_in (f := BG A k u) (A 2).toNat 0 with x | ⟨x1, x2, x3⟩
    · exact absurd x e
    · exact hi.mpr (.inr ⟨_, x1, by omega, x3⟩)
def Sc107 (μ μ' : Mem) : Prop := ∀ c i, c ≠ 107 → μ' c i = μ c i
theorem Sc107_sa {μ μ' : Mem} (h : Sc107 μ μ') : SaC μ μ' := by
  intro c i e
  unfold EssC at e
  exact h c i (by omega)
theorem win_w {La o : Int} {A : Int → Int} (hL : isL La) (o0 : 0 ≤ o) (o1 : o < 512) (ho : ∀ l, 0 ≤ l → tb o l = decide (l < A 2 ∧ openM A l = 1)) :
    ∀ (r n : Nat) (μ : Mem), LR μ La A → (r : Int) ≤ jshl 1 (A 2) → r < n → (∀ v k, (r : Int) ≤ v → v < jshl 1 (A 2) → 0 ≤ k → k < 7 → 0 ≤ μ 107 v ∧ μ 107 v < 2 ^ 7 ∧ tb (μ 107 v) k = WG A k v) →
    ∃ μ', f_X1_firstWinning_w20 n 106 58 La o ((r : Int) - 1) μ = f_X1_firstWinning_w59 FU 106 58 La o 0 μ' ∧ Sc107 μ μ' ∧ (∀ v k, 0 ≤ v → v < jshl 1 (A 2) → 0 ≤ k → k < 7 → 0 ≤ μ' 107 v ∧ μ' 107 v < 2 ^ 7 ∧ tb (μ' 107 v) k = WG A k v) := by
  have hLo := hL
  unfold isL at hLo
  intro r
  induction r with
  | zero =>
    intro n μ hR hr hn hw
    obtain ⟨n, rfl⟩ : ∃ q, n = q + 1 := ⟨n - 1, by omega⟩
    refine ⟨μ, ?_, fun _ _ _ => rfl, hw⟩
    rw [f_X1_firstWinning_w20, if_pos (by decide)]
  | succ r ih =>
    intro n μ hR hr hn hw
    obtain ⟨n, rfl⟩ : ∃ q, n = q + 1 := ⟨n - 1, by omega⟩
    have hJL := jshl_L hR.2.1.2.1 hR.2.1.2.2
    obtain ⟨v, v1, v2, v3, v4⟩ := won_eq (u := (r : Int)) hL hR o0 o1 ho (by omega) (by omega) (fun x k h1 h2 h3 h4 => hw x k (by omega) h2 h3 h4)
    have s : Sc107 μ (ms μ 107 r v) := fun c i h => ms_nc h
    obtain ⟨μ', y1, y2, y3⟩ := ih n (ms μ 107 r v) (LR_co hL (fun c i _ _ _ => s c i (by omega)) hR) (by omega) (by omega) (by
      intro x k h1 h2 h3 h4
      by_cases e : x = r
      · rw [e, ms_eq]; exact ⟨v2, v3, v4 k h3 h4⟩
      · rw [ms_ni e]; exact hw x k (by omega) h2 h3 h4)
    refine ⟨μ', ?_, fun c i h => (y2 c i h).trans (s c i h), y3⟩
    rw [f_X1_firstWinning_w20, show ((r + 1 : Nat) : Int) - 1 = (r : Int) by omega, nrm_id (z := (r : Int)) (by omega) (by omega), if_neg (by omega), if_neg (by show ¬ ((512 : Int) ≤ r); omega), bn_eq v1, gd_pos (by omega), nm_eq, show (106 + 1 : Int) = 107 from rfl]
    unfold f_X1_firstWinning_j50
    rw [show (r : Int) + (-1) = (r : Int) - 1 by omega]
    exact y1
theorem win_f {La o p : Int} {A : Int → Int} {μ : Mem} (hL : isL La) (hR : LR μ La A) (o0 : 0 ≤ o) (o1 : o < 512) (ho : ∀ l, 0 ≤ l → tb o l = decide (l < A 2 ∧ openM A l = 1)) (hp : μ 58 1 = p) (p0 : 0 ≤ p) (p7 : p < 7)
    (hw : ∀ v k, 0 ≤ v → v < jshl 1 (A 2) → 0 ≤ k → k < 7 → 0 ≤ μ 107 v ∧ μ 107 v < 2 ^ 7 ∧ tb (μ 107 v) k = WG A k v) :
    ∀ (d n : Nat) (l : Int), 0 ≤ l → l + d = A 2 → d < n → f_X1_firstWinning_w59 n 106 58 La o l μ = some (fsL (BG A p 0) d l, μ) := by
  obtain ⟨_, ⟨g2, g20, g29⟩, _⟩ := id hR
  have hJL := jshl_L g20 g29
  intro d
  induction d with
  | zero =>
    intro n l l0 ld hn
    obtain ⟨n, rfl⟩ : ∃ q, n = q + 1 := ⟨n - 1, by omega⟩
    rw [f_X1_firstWinning_w59, gd_pos (isL_k hL), g2, nrm_id (z := A 2) (by omega) (by omega), nrm_id (z := l) (by omega) (by omega), if_pos (by omega)]
    rfl
  | succ d ih =>
    intro n l l0 ld hn
    obtain ⟨n, rfl⟩ : ∃ q, n = q + 1 := ⟨n - 1, by omega⟩
    have q := leads_eq (u := 0) hL hR o0 o1 ho (by decide) (by omega) l0 (by omega) p0 p7 (fun v k h1 h2 h3 h4 => hw v k (by omega) h2 h3 h4)
    unfold fsL
    rw [f_X1_firstWinning_w59, gd_pos (isL_k hL), g2, nrm_id (z := A 2) (by omega) (by omega), nrm_id (z := l) (by omega) (by omega), if_neg (by omega), gd_pos kk_58, hp, bn_eq q]
    cases BG A p 0 l
    · exact ih n (l + 1) (by omega) (by omega) (by omega)
    · rfl
theorem firstWinning_eq {μ ρ : Mem} (j : JR μ 58 ρ) : ∃ μ', f_X1_firstWinning 106 58 μ = some (fsL (BG (rowA ρ 0) (ρ 112 55) 0) (ρ 112 2).toNat 0, μ') ∧ SaC μ μ' := by
  obtain ⟨hL, hR, _, ⟨L0, L9⟩, _, ⟨K1, K7⟩, hl, ⟨c1, c2, c3⟩, _⟩ := now_is j
  obtain ⟨o, μ2, o1, o2, o3, o4, o5⟩ := openLanes_eq j
  obtain ⟨j2, j3⟩ := JR_sa o2 (SaR_rfl ρ) j
  obtain ⟨hL2, hR2, _, _, _, _, hl2, ⟨c12, _⟩, _⟩ := now_is j2
  have hJL := jshl_L L0 L9
  have ho : ∀ l, 0 ≤ l → tb o l = decide (l < rowA ρ 0 2 ∧ openM (rowA ρ 0) l = 1) := by
    intro l l0
    rw [rowA_0]; exact o5 l l0
  obtain ⟨μ3, p1, p2, p3⟩ := win_w (A := rowA ρ 0) hL2 o3 o4 ho (jshl 1 (ρ 112 2)).toNat FU μ2 hR2 (by rw [rowA_0]; omega) (by unfold FU; omega) (by
    intro v k h1 h2
    rw [rowA_0] at h2
    omega)
  have hLo := hL2
  unfold isL at hLo
  have hf := win_f (p := ρ 112 55) (μ := μ3) hL2 (LR_co hL2 (fun c i _ _ _ => p2 c i (by omega)) hR2) o3 o4 ho (by rw [p2 58 1 (by decide)]; exact c12) c2 (by omega) p3 (ρ 112 2).toNat FU 0 (by decide) (by rw [rowA_0]; omega) (by unfold FU; omega)
  refine ⟨μ3, ?_, SaC_tr o2 (Sc107_sa p2)⟩
  unfold f_X1_firstWinning
  rw [gd_pos kk_58, bn_eq o1, gd_pos (isL_k hL), nm_eq, ← j3, hl2]
  rw [show ((jshl 1 (ρ 112 2)).toNat : Int) - 1 = jshl 1 (ρ 112 2) - 1 by omega] at p1
  rw [p1]
  exact hf
