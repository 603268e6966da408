/-! the two weighings agree -/
def cvM (x : Int) : Int := 1000 * (x / 16) + x % 16
theorem cv_mono {x y : Int} (h : x ≤ y) : cvM x ≤ cvM y := by unfold cvM; omega
theorem cv_inj {x y : Int} (h : cvM x = cvM y) : x = y := by unfold cvM at h; omega
theorem cv_add {x f : Int} (h : x % 16 ≤ 14) : cvM (x + (f * 16 + 1)) = cvM x + (1000 * f + 1) := by unfold cvM; omega
theorem wKC {A : Int → Int} {l : Int} : (wK A l = -1 ∧ wC A l = -1) ∨ (∃ f, wK A l = f * 16 + 1 ∧ wC A l = 1000 * f + 1) := by
  unfold wK wC
  by_cases e : fillM A l = -1
  · rw [if_pos e, if_pos e]; exact .inl ⟨rfl, rfl⟩
  · rw [if_neg e, if_neg e]; exact .inr ⟨_, rfl, rfl⟩
theorem EdK {A : Int → Int} (fo : fillOk A) {w a b : Int} (h : EdG A (wK A) (w, a, b)) : ∃ f, 0 ≤ f ∧ w = f * 16 + 1 ∧ EdG A (wC A) (1000 * f + 1, a, b) := by
  obtain ⟨l, l0, l1, h1, h2, h3⟩ := h
  dsimp only at h2 h3
  rcases fo l l0 l1 with e | e
  · exfalso
    apply h1
    unfold wK
    rw [if_pos e]
  · refine ⟨fillM A l, e.1, ?_, l, l0, l1, ?_, ?_, h3⟩
    · rw [h2]; unfold wK; rw [if_neg (by omega)]
    · unfold wC; rw [if_neg (by omega)]; omega
    · dsimp only; unfold wC; rw [if_neg (by omega)]
theorem EdC {A : Int → Int} (fo : fillOk A) {w a b : Int} (h : EdG A (wC A) (w, a, b)) : ∃ f, 0 ≤ f ∧ w = 1000 * f + 1 ∧ EdG A (wK A) (f * 16 + 1, a, b) := by
  obtain ⟨l, l0, l1, h1, h2, h3⟩ := h
  dsimp only at h2 h3
  rcases fo l l0 l1 with e | e
  · exfalso
    apply h1
    unfold wC
    rw [if_pos e]
  · refine ⟨fillM A l, e.1, ?_, l, l0, l1, ?_, ?_, h3⟩
    · rw [h2]; unfold wC; rw [if_neg (by omega)]
    · unfold wK; rw [if_neg (by omega)]; omega
    · dsimp only; unfold wK; rw [if_neg (by omega)]
theorem cv_rk {A D : Int → Int} {g : Int} (fo : fillOk A) (ok : okE (EdG A (wK A))) (hD : isD (EdG A (wK A)) g D) : ∀ (n : Nat) (k : Int), 0 ≤ k → k < 7 → D k ≤ n → D k ≠ farI → D k % 16 ≤ rkD D k := by
  intro n
  induction n with
  | zero =>
    intro k k0 k7 kn kf
    have := hD.1.2.1 k k0 k7
    have := rk_6 D k0 k7
    omega
  | succ n ih =>
    intro k k0 k7 kn kf
    have rk := rk_6 D k0 k7
    by_cases e : k = g
    · have e0 : D k = 0 := by rw [e]; exact hD.1.1
      omega
    · obtain ⟨⟨w, a, b⟩, x1, x2, x3, x4⟩ := hD.1.2.2.1 k k0 k7 e kf
      obtain ⟨o1, _, o3, o4, _⟩ := ok _ x1
      obtain ⟨f, f0, f1, _⟩ := EdK fo x1
      have c := hD.2 _ x1 x3
      dsimp only at *
      rw [x2] at c
      have hk : D k = D a + w := by omega
      have hlt := rk_lt (D := D) (k := k) o3 o4 (by omega)
      have := ih a o3 o4 (by omega) x3
      omega
theorem cv_eq {A D E : Int → Int} {g : Int} (fo : fillOk A) (okK : okE (EdG A (wK A))) (okC : okE (EdG A (wC A))) (g0 : 0 ≤ g) (g7 : g < 7) (hD : isD (EdG A (wK A)) g D) (hE : isD (EdG A (wC A)) g E) {k : Int} (k0 : 0 ≤ k) (k7 : k < 7) :
    (D k = farI ∧ E k = farI) ∨ (D k ≠ farI ∧ E k ≠ farI ∧ E k = cvM (D k) ∧ 0 ≤ D k ∧ D k ≤ 60000 ∧ D k % 16 ≤ 6) := by
  have hf : farI = 268435456 := rfl
  have bd : ∀ k, 0 ≤ k → k < 7 → D k ≠ farI → 0 ≤ D k ∧ D k ≤ 60000 ∧ D k % 16 ≤ 6 := by
    intro k k0 k7 kf
    have a := hD.1.2.1 k k0 k7
    have b := hD.1.2.2.2 k k0 k7 kf
    have c := nfin_in D
    have d := cv_rk fo okK hD (D k).toNat k k0 k7 (by omega) kf
    have e := rk_6 D k0 k7
    omega
  have up : ∀ (n : Nat) (k : Int), 0 ≤ k → k < 7 → D k ≤ n → D k ≠ farI → E k ≤ cvM (D k) := by
    intro n
    induction n with
    | zero =>
      intro k k0 k7 kn kf
      by_cases e : k = g
      · rw [e, hE.1.1, hD.1.1]; decide
      · exfalso
        obtain ⟨⟨w, a, b⟩, x1, x2, x3, x4⟩ := hD.1.2.2.1 k k0 k7 e kf
        obtain ⟨o1, _, o3, o4, _⟩ := okK _ x1
        have := hD.1.2.1 a o3 o4
        dsimp only at *
        omega
    | succ n ih =>
      intro k k0 k7 kn kf
      by_cases e : k = g
      · rw [e, hE.1.1, hD.1.1]; decide
      · obtain ⟨⟨w, a, b⟩, x1, x2, x3, x4⟩ := hD.1.2.2.1 k k0 k7 e kf
        obtain ⟨o1, _, o3, o4, _⟩ := okK _ x1
        obtain ⟨f, f0, f1, f2⟩ := EdK fo x1
        have c := hD.2 _ x1 x3
        dsimp only at *
        rw [x2] at c
        have hk : D k = D a + (f * 16 + 1) := by omega
        have ba := bd a o3 o4 x3
        have ia := ih a o3 o4 (by omega) x3
        have ca : cvM (D a) ≤ 4000000 := by unfold cvM; omega
        have hea := hE.2 _ f2 (by dsimp only; omega)
        dsimp only at hea
        rw [x2] at hea
        rw [hk, cv_add (by omega)]
        omega
  have dn : ∀ (n : Nat) (k : Int), 0 ≤ k → k < 7 → E k ≤ n → E k ≠ farI → D k ≠ farI ∧ cvM (D k) ≤ E k := by
    intro n
    induction n with
    | zero =>
      intro k k0 k7 kn kf
      by_cases e : k = g
      · rw [e, hE.1.1, hD.1.1]; exact ⟨by decide, by decide⟩
      · exfalso
        obtain ⟨⟨w, a, b⟩, x1, x2, x3, x4⟩ := hE.1.2.2.1 k k0 k7 e kf
        obtain ⟨o1, _, o3, o4, _⟩ := okC _ x1
        have := hE.1.2.1 a o3 o4
        dsimp only at *
        omega
    | succ n ih =>
      intro k k0 k7 kn kf
      by_cases e : k = g
      · rw [e, hE.1.1, hD.1.1]; exact ⟨by decide, by decide⟩
      · obtain ⟨⟨w, a, b⟩, x1, x2, x3, x4⟩ := hE.1.2.2.1 k k0 k7 e kf
        obtain ⟨o1, _, o3, o4, _⟩ := okC _ x1
        obtain ⟨f, f0, f1, f2⟩ := EdC fo x1
        dsimp only at *
        obtain ⟨ia, ib⟩ := ih a o3 o4 (by omega) x3
        have ba := bd a o3 o4 ia
        have hda := hD.2 _ f2 ia
        obtain ⟨_, q2, _⟩ := okK _ f2
        dsimp only at hda q2
        rw [x2] at hda
        refine ⟨by omega, ?_⟩
        have m := cv_mono hda
        rw [cv_add (by omega)] at m
        omega
  by_cases e : D k = farI
  · refine .inl ⟨e, ?_⟩
    apply Classical.byContradiction
    intro hx
    have := hE.1.2.1 k k0 k7
    exact (dn (E k).toNat k k0 k7 (by omega) hx).1 e
  · have b := bd k k0 k7 e
    have u := up (D k).toNat k k0 k7 (by omega) e
    have cb : cvM (D k) ≤ 4000000 := by unfold cvM; omega
    have ef : E k ≠ farI := by omega
    have := hE.1.2.1 k k0 k7
    have l := (dn (E k).toNat k k0 k7 (by omega) ef).2
    exact .inr ⟨e, ef, by omega, b⟩
/-- The first lane of a nearest way, from the lane l on. -/
def onL (A w F : Int → Int) (p : Int) : Nat → Int → Int
  | 0, _ => -1
  | d + 1, l => if oeM A l p ≠ -1 ∧ w l ≠ -1 ∧ F (oeM A l p) ≠ farI ∧ F (oeM A l p) + w l = F p then l else onL A w F p d (l + 1)
/-- The i-th lane of a nearest way. -/
def wyM (A w F : Int → Int) : Nat → Int → Int → Int
  | 0, _, _ => -1
  | r + 1, p, i => if F p = farI ∨ F p = 0 then -1 else if i = 0 then onL A w F p (A 2).toNat 0 else wyM A w F r (oeM A (onL A w F p (A 2).toNat 0) p) (i - 1)
theorem onL_in {A w F : Int → Int} {p : Int} : ∀ (d : Nat) (l : Int), 0 ≤ l → l + d = A 2 → onL A w F p d l = -1 ∨ (l ≤ onL A w F p d l ∧ onL A w F p d l < A 2 ∧ oeM A (onL A w F p d l) p ≠ -1 ∧ w (onL A w F p d l) ≠ -1 ∧ F (oeM A (onL A w F p d l) p) ≠ farI ∧ F (oeM A (onL A w F p d l) p) + w (onL A w F p d l) = F p)
  | 0, _, _, _ => .inl rfl
  | d + 1, l, l0, ld => by
    unfold onL
    by_cases c : oeM A l p ≠ -1 ∧ w l ≠ -1 ∧ F (oeM A l p) ≠ farI ∧ F (oeM A l p) + w l = F p
    · rw [if_pos c]; exact .inr ⟨Int.le_refl _, by omega, c⟩
    · rw [if_neg c]
      rcases onL_in (A := A) (w := w) (F := F) (p := p) d (l + 1) (by omega) (by omega) with q | ⟨q1, q2⟩
      · exact .inl q
      · exact .inr ⟨by omega, q2⟩
theorem onL_ex {A w F : Int → Int} {p : Int} : ∀ (d : Nat) (l m : Int), 0 ≤ l → l ≤ m → m < l + d → (oeM A m p ≠ -1 ∧ w m ≠ -1 ∧ F (oeM A m p) ≠ farI ∧ F (oeM A m p) + w m = F p) → onL A w F p d l ≠ -1
  | 0, l, m, _, h1, h2, _ => by omega
  | d + 1, l, m, l0, h1, h2, hm => by
    unfold onL
    by_cases c : oeM A l p ≠ -1 ∧ w l ≠ -1 ∧ F (oeM A l p) ≠ farI ∧ F (oeM A l p) + w l = F p
    · rw [if_pos c]; omega
    · rw [if_neg c]
      have : m ≠ l := fun e => c (e ▸ hm)
      exact onL_ex d (l + 1) m (by omega) (by omega) (by omega) hm
theorem oe_of {μ : Mem} {La : Int} {A w : Int → Int} (h : LR μ La A) {v a k : Int} (he : EdG A w (v, a, k)) : ∃ l, 0 ≤ l ∧ l < A 2 ∧ w l ≠ -1 ∧ v = w l ∧ oeM A l k = a := by
  obtain ⟨l, l0, l1, h1, h2, h3⟩ := he
  obtain ⟨_, _, _, _, _, g6, _⟩ := h
  obtain ⟨_, a2, a3, _, b2, b3, ne, _⟩ := g6 l l0 l1
  dsimp only at h2 h3
  refine ⟨l, l0, l1, h1, h2, ?_⟩
  unfold oeM
  rcases h3 with ⟨x1, x2⟩ | ⟨x1, x2⟩
  · rw [x1, x2, if_neg ne, if_pos rfl]
  · rw [x1, x2, if_pos rfl]
/-- There is a lane on, where it isn't yet there and can come. -/
theorem onL_D {μ : Mem} {La g p : Int} {A w D : Int → Int} (h : LR μ La A) (hw : okW A w) (g0 : 0 ≤ g) (g7 : g < 7) (hD : isD (EdG A w) g D) (p0 : 0 ≤ p) (p7 : p < 7) (h1 : D p ≠ farI) (h2 : D p ≠ 0) :
    0 ≤ onL A w D p (A 2).toNat 0 ∧ onL A w D p (A 2).toNat 0 < A 2 ∧ 0 ≤ oeM A (onL A w D p (A 2).toNat 0) p ∧ oeM A (onL A w D p (A 2).toNat 0) p < 7 ∧ w (onL A w D p (A 2).toNat 0) ≠ -1 ∧ D (oeM A (onL A w D p (A 2).toNat 0) p) ≠ farI ∧ D (oeM A (onL A w D p (A 2).toNat 0) p) + w (onL A w D p (A 2).toNat 0) = D p ∧ rkD D (oeM A (onL A w D p (A 2).toNat 0) p) < rkD D p := by
  have ok := EdG_ok h hw
  have l20 := h.2.1.2.1
  have hg : p ≠ g := fun e => h2 (by rw [e]; exact hD.1.1)
  obtain ⟨⟨v, a, b⟩, x1, x2, x3, x4⟩ := hD.1.2.2.1 p p0 p7 hg h1
  dsimp only at x2 x3 x4
  rw [x2] at x1
  obtain ⟨l, l0, l1, y1, y2, y3⟩ := oe_of h x1
  have c := hD.2 _ x1 x3
  dsimp only at c
  have oo := ok _ x1
  dsimp only at oo
  have ne := onL_ex (A := A) (w := w) (F := D) (p := p) (A 2).toNat 0 l (by decide) l0 (by omega) ⟨by rw [y3]; omega, y1, by rw [y3]; exact x3, by rw [y3]; omega⟩
  rcases onL_in (A := A) (w := w) (F := D) (p := p) (A 2).toNat 0 (by decide) (by omega) with q | ⟨q1, q2, q3, q4, q5, q6⟩
  · exact absurd q ne
  · have ho := oeM_in (k := p) h q1 q2
    have k7 := h.1.2.2
    have wb := hw _ q1 q2
    exact ⟨q1, q2, by omega, by omega, q4, q5, q6, rk_lt (by omega) (by omega) (by omega)⟩
theorem onL_cv {A w w' D E : Int → Int} {p : Int} (h : ∀ l, 0 ≤ l → l < A 2 → ((oeM A l p ≠ -1 ∧ w l ≠ -1 ∧ D (oeM A l p) ≠ farI ∧ D (oeM A l p) + w l = D p) ↔ (oeM A l p ≠ -1 ∧ w' l ≠ -1 ∧ E (oeM A l p) ≠ farI ∧ E (oeM A l p) + w' l = E p))) : ∀ (d : Nat) (l : Int), 0 ≤ l → l + d = A 2 → onL A w D p d l = onL A w' E p d l
  | 0, _, _, _ => rfl
  | d + 1, l, l0, ld => by
    unfold onL
    rw [onL_cv h d (l + 1) (by omega) (by omega)]
    by_cases c : oeM A l p ≠ -1 ∧ w l ≠ -1 ∧ D (oeM A l p) ≠ farI ∧ D (oeM A l p) + w l = D p
    · rw [if_pos c, if_pos ((h l l0 (by omega)).mp c)]
    · rw [if_neg c, if_neg (fun q => c ((h l l0 (by omega)).mpr q))]
/-- Both weighings lead by the same lanes. -/
theorem wyM_cv {μ : Mem} {La g : Int} {A D E : Int → Int} (h : LR μ La A) (fo : fillOk A) (g0 : 0 ≤ g) (g7 : g < 7) (hD : isD (EdG A (wK A)) g D) (hE : isD (EdG A (wC A)) g E) : ∀ (r : Nat) (p i : Int), 0 ≤ p → p < 7 → wyM A (wK A) D r p i = wyM A (wC A) E r p i := by
  have okK := EdG_ok h (wK_ok fo)
  have okC := EdG_ok h (wC_ok fo)
  have l20 := h.2.1.2.1
  have cv := fun (k : Int) (k0 : 0 ≤ k) (k7 : k < 7) => cv_eq fo okK okC g0 g7 hD hE k0 k7
  intro r
  induction r with
  | zero => intro p i _ _; rfl
  | succ r ih =>
    intro p i p0 p7
    unfold wyM
    have cp := cv p p0 p7
    by_cases e : D p = farI ∨ D p = 0
    · rw [if_pos e, if_pos]
      rcases e with e | e
      · rcases cp with q | q
        · exact .inl q.2
        · exact absurd e q.1
      · rcases cp with q | q
        · exact .inl q.2
        · refine .inr ?_
          rw [q.2.2.1, e]; rfl
    · have e1 : D p ≠ farI := fun x => e (.inl x)
      have e2 : D p ≠ 0 := fun x => e (.inr x)
      have e3 : E p ≠ farI ∧ E p = cvM (D p) ∧ 0 ≤ D p ∧ D p % 16 ≤ 6 := by
        rcases cp with q | q
        · exact absurd q.1 e1
        · exact ⟨q.2.1, q.2.2.1, q.2.2.2.1, q.2.2.2.2.2⟩
      have e4 : E p ≠ 0 := by
        rw [e3.2.1]
        unfold cvM
        omega
      rw [if_neg e, if_neg (show ¬ (E p = farI ∨ E p = 0) from fun x => x.elim e3.1 e4)]
      have hon : onL A (wK A) D p (A 2).toNat 0 = onL A (wC A) E p (A 2).toNat 0 := by
        refine onL_cv ?_ (A 2).toNat 0 (by decide) (by omega)
        intro l l0 l1
        have ho := oeM_in (k := p) h l0 l1
        have k7 := h.1.2.2
        by_cases o : oeM A l p = -1
        · exact ⟨fun q => absurd o q.1, fun q => absurd o q.1⟩
        · have co := cv (oeM A l p) (by omega) (by omega)
          rcases wKC (A := A) (l := l) with ⟨z1, z2⟩ | ⟨f, z1, z2⟩
          · exact ⟨fun q => absurd z1 q.2.1, fun q => absurd z2 q.2.1⟩
          · have wk := wK_ok fo l l0 l1
            have wc := wC_ok fo l l0 l1
            rcases co with q | q
            · exact ⟨fun x => absurd q.1 x.2.2.1, fun x => absurd q.2 x.2.2.1⟩
            · constructor
              · intro ⟨_, y2, y3, y4⟩
                refine ⟨o, by omega, q.2.1, ?_⟩
                rw [q.2.2.1, e3.2.1, ← y4, z1, z2, cv_add (by omega)]
              · intro ⟨_, y2, y3, y4⟩
                refine ⟨o, by omega, q.1, ?_⟩
                apply cv_inj
                rw [z1, cv_add (by omega), ← q.2.2.1, ← e3.2.1, ← z2]
                exact y4
      rw [hon]
      by_cases z : i = 0
      · rw [if_pos z, if_pos z]
      · rw [if_neg z, if_neg z]
        obtain ⟨_, _, q3, q4, _⟩ := onL_D h (wC_ok fo) g0 g7 hE p0 p7 e3.1 e4
        exact ih _ (i - 1) q3 q4
