/-! how far it is: an abstract part -/
abbrev farI : Int := 268435456
abbrev Edge : Type := Int × Int × Int
def upF (F : Int → Int) (b v : Int) : Int → Int := fun k => if k = b then v else F k
/-- An edge of a weight, from a place, to a place. -/
def rlx (F : Int → Int) (e : Edge) : Int → Int := if F e.2.1 ≠ farI ∧ F e.2.1 + e.1 < F e.2.2 then upF F e.2.2 (F e.2.1 + e.1) else F
def runR : List Edge → (Int → Int) → (Int → Int)
  | [], F => F
  | e :: es, F => runR es (rlx F e)
def chg : List Edge → (Int → Int) → Bool
  | [], _ => false
  | e :: es, F => decide (F e.2.1 ≠ farI ∧ F e.2.1 + e.1 < F e.2.2) || chg es (rlx F e)
def okE (Ed : Edge → Prop) : Prop := ∀ e, Ed e → 1 ≤ e.1 ∧ e.1 ≤ 10000 ∧ 0 ≤ e.2.1 ∧ e.2.1 < 7 ∧ 0 ≤ e.2.2 ∧ e.2.2 < 7
/-- How many places are come to. -/
def nfin (F : Int → Int) : Int := sumTo (fun k => if F k = farI then 0 else 1) 7
def JF (Ed : Edge → Prop) (g : Int) (F : Int → Int) : Prop := F g = 0 ∧ (∀ k, 0 ≤ k → k < 7 → 0 ≤ F k ∧ F k ≤ farI) ∧
  (∀ k, 0 ≤ k → k < 7 → k ≠ g → F k ≠ farI → ∃ e, Ed e ∧ e.2.2 = k ∧ F e.2.1 ≠ farI ∧ F e.2.1 + e.1 ≤ F k) ∧
  (∀ k, 0 ≤ k → k < 7 → F k ≠ farI → F k ≤ 10000 * (nfin F - 1))
/-- A distance: the least of all ways. -/
def isD (Ed : Edge → Prop) (g : Int) (D : Int → Int) : Prop := JF Ed g D ∧ (∀ e, Ed e → D e.2.1 ≠ farI → D e.2.2 ≤ D e.2.1 + e.1)
theorem upF_eq (F : Int → Int) (b v : Int) : upF F b v b = v := if_pos rfl
theorem upF_ne {F : Int → Int} {b v k : Int} (h : k ≠ b) : upF F b v k = F k := if_neg h
theorem sumTo_upd {f g : Int → Int} {b x : Int} : ∀ {d : Nat}, 0 ≤ b → b < d → (∀ j, j ≠ b → g j = f j) → g b = f b + x → sumTo g d = sumTo f d + x
  | 0, h0, h1, _, _ => by omega
  | d + 1, h0, h1, h2, h3 => by
    unfold sumTo
    by_cases e : b = d
    · have a : sumTo g d = sumTo f d := sumTo_cg (fun j j0 j1 => h2 j (by omega))
      rw [a, ← e, h3]
      omega
    · have a := sumTo_upd (f := f) (g := g) (b := b) (x := x) (d := d) h0 (by omega) h2 h3
      rw [a, h2 d (by omega)]
      omega
theorem nfin_in (F : Int → Int) : 0 ≤ nfin F ∧ nfin F ≤ 7 := by
  have h : ∀ d : Nat, 0 ≤ sumTo (fun k => if F k = farI then 0 else 1) d ∧ sumTo (fun k => if F k = farI then 0 else 1) d ≤ d := by
    intro d
    induction d with
    | zero => exact ⟨Int.le_refl _, Int.le_refl _⟩
    | succ d ih =>
      unfold sumTo
      split <;> omega
  exact h 7
theorem nfin_pos {F : Int → Int} {g : Int} (g0 : 0 ≤ g) (g7 : g < 7) (h : F g ≠ farI) : 1 ≤ nfin F := by
  have := sumTo_lt (f := fun _ => 0) (g := fun k => if F k = farI then 0 else 1) (d := 7) (fun j _ _ => by split <;> decide) ⟨g, g0, g7, by rw [if_neg h]; decide⟩
  have e : sumTo (fun _ => 0) 7 = 0 := by decide
  unfold nfin
  omega
theorem rlx_le (F : Int → Int) (e : Edge) (k : Int) : rlx F e k ≤ F k := by
  unfold rlx
  split
  · next h =>
    by_cases q : k = e.2.2
    · rw [q, upF_eq]; omega
    · rw [upF_ne q]; exact Int.le_refl _
  · exact Int.le_refl _
theorem runR_le : ∀ (es : List Edge) (F : Int → Int) (k : Int), runR es F k ≤ F k
  | [], F, k => Int.le_refl _
  | e :: es, F, k => Int.le_trans (runR_le es (rlx F e) k) (rlx_le F e k)
theorem rlx_JF {Ed : Edge → Prop} {g : Int} {F : Int → Int} {e : Edge} (ok : okE Ed) (g0 : 0 ≤ g) (g7 : g < 7) (he : Ed e) (h : JF Ed g F) : JF Ed g (rlx F e) := by
  obtain ⟨o1, o2, o3, o4, o5, o6⟩ := ok e he
  unfold rlx
  by_cases c : F e.2.1 ≠ farI ∧ F e.2.1 + e.1 < F e.2.2
  · rw [if_pos c]
    obtain ⟨c1, c2⟩ := c
    obtain ⟨h1, h2, h3, h4⟩ := h
    have ha := h2 e.2.1 o3 o4
    have hb := h2 e.2.2 o5 o6
    have bg : e.2.2 ≠ g := by
      intro q
      rw [q, h1] at c2
      omega
    have ab : e.2.1 ≠ e.2.2 := by
      intro q
      rw [← q] at c2
      omega
    have hn : nfin F ≤ nfin (upF F e.2.2 (F e.2.1 + e.1)) ∧ (F e.2.2 = farI → nfin (upF F e.2.2 (F e.2.1 + e.1)) = nfin F + 1) := by
      by_cases q : F e.2.2 = farI
      · have := sumTo_upd (f := fun k => if F k = farI then 0 else 1) (g := fun k => if upF F e.2.2 (F e.2.1 + e.1) k = farI then 0 else 1) (b := e.2.2) (x := 1) (d := 7) o5 o6 (fun j hj => by simp only [upF_ne hj]) (by
          simp only [upF_eq]
          rw [if_pos q, if_neg (by omega)]
          rfl)
        have e2 : nfin (upF F e.2.2 (F e.2.1 + e.1)) = nfin F + 1 := this
        exact ⟨by omega, fun _ => e2⟩
      · have := sumTo_upd (f := fun k => if F k = farI then 0 else 1) (g := fun k => if upF F e.2.2 (F e.2.1 + e.1) k = farI then 0 else 1) (b := e.2.2) (x := 0) (d := 7) o5 o6 (fun j hj => by simp only [upF_ne hj]) (by
          simp only [upF_eq]
          rw [if_neg q, if_neg (by omega)]
          rfl)
        have e2 : nfin (upF F e.2.2 (F e.2.1 + e.1)) = nfin F + 0 := this
        exact ⟨by omega, fun z => absurd z q⟩
    refine ⟨?_, ?_, ?_, ?_⟩
    · rw [upF_ne (Ne.symm bg)]; exact h1
    · intro k k0 k7
      by_cases q : k = e.2.2
      · rw [q, upF_eq]; omega
      · rw [upF_ne q]; exact h2 k k0 k7
    · intro k k0 k7 kg kf
      by_cases q : k = e.2.2
      · refine ⟨e, he, q.symm, ?_, ?_⟩
        · rw [upF_ne ab]; exact c1
        · rw [upF_ne ab, q, upF_eq]; exact Int.le_refl _
      · rw [upF_ne q] at kf ⊢
        obtain ⟨e', x1, x2, x3, x4⟩ := h3 k k0 k7 kg kf
        refine ⟨e', x1, x2, ?_, ?_⟩
        · by_cases z : e'.2.1 = e.2.2
          · rw [z, upF_eq]; omega
          · rw [upF_ne z]; exact x3
        · by_cases z : e'.2.1 = e.2.2
          · rw [z, upF_eq]
            rw [z] at x4
            omega
          · rw [upF_ne z]; exact x4
    · intro k k0 k7 kf
      by_cases q : k = e.2.2
      · rw [q, upF_eq]
        have hA := h4 e.2.1 o3 o4 c1
        by_cases z : F e.2.2 = farI
        · rw [hn.2 z]; omega
        · have hB := h4 e.2.2 o5 o6 z
          have := hn.1
          omega
      · rw [upF_ne q] at kf ⊢
        have := h4 k k0 k7 kf
        have := hn.1
        omega
  · rw [if_neg c]; exact h
theorem runR_JF {Ed : Edge → Prop} {g : Int} (ok : okE Ed) (g0 : 0 ≤ g) (g7 : g < 7) : ∀ (es : List Edge) (F : Int → Int), (∀ e ∈ es, Ed e) → JF Ed g F → JF Ed g (runR es F)
  | [], _, _, h => h
  | e :: es, F, hs, h => runR_JF ok g0 g7 es (rlx F e) (fun x hx => hs x (List.mem_cons_of_mem _ hx)) (rlx_JF ok g0 g7 (hs e (List.mem_cons_self ..)) h)
theorem rlx_edge (F : Int → Int) (e : Edge) (h : F e.2.1 ≠ farI) : rlx F e e.2.2 ≤ F e.2.1 + e.1 := by
  unfold rlx
  by_cases c : F e.2.1 + e.1 < F e.2.2
  · rw [if_pos ⟨h, c⟩, upF_eq]; exact Int.le_refl _
  · rw [if_neg (fun q => c q.2)]; omega
theorem runR_edge {Ed : Edge → Prop} {g : Int} (ok : okE Ed) (g0 : 0 ≤ g) (g7 : g < 7) : ∀ (es : List Edge) (F : Int → Int) (e : Edge), (∀ e ∈ es, Ed e) → JF Ed g F → e ∈ es → F e.2.1 ≠ farI → runR es F e.2.2 ≤ F e.2.1 + e.1
  | [], _, _, _, _, h, _ => by cases h
  | x :: es, F, e, hs, hJ, h, hf => by
    show runR es (rlx F x) e.2.2 ≤ _
    have hJ' := rlx_JF ok g0 g7 (hs x (List.mem_cons_self ..)) hJ
    obtain ⟨o1, o2, o3, o4, o5, o6⟩ := ok e (hs e h)
    rcases List.mem_cons.mp h with q | q
    · subst q
      exact Int.le_trans (runR_le es _ _) (rlx_edge F e hf)
    · have l := rlx_le F x e.2.1
      have f2 : rlx F x e.2.1 ≠ farI := by
        have := hJ.2.1 e.2.1 o3 o4
        omega
      have := runR_edge ok g0 g7 es (rlx F x) e (fun y hy => hs y (List.mem_cons_of_mem _ hy)) hJ' q f2
      omega
theorem chg_f : ∀ (es : List Edge) (F : Int → Int), chg es F = false → runR es F = F ∧ ∀ e ∈ es, F e.2.1 ≠ farI → F e.2.2 ≤ F e.2.1 + e.1
  | [], F, _ => ⟨rfl, fun e h => by cases h⟩
  | x :: es, F, h => by
    unfold chg at h
    rw [Bool.or_eq_false_iff] at h
    have c := of_decide_eq_false h.1
    have e0 : rlx F x = F := by unfold rlx; rw [if_neg c]
    rw [e0] at h
    obtain ⟨a, b⟩ := chg_f es F h.2
    refine ⟨?_, ?_⟩
    · show runR es (rlx F x) = F
      rw [e0]; exact a
    · intro e he hf
      rcases List.mem_cons.mp he with q | q
      · subst q
        apply Classical.byContradiction
        intro hc
        exact c ⟨hf, by omega⟩
      · exact b e q hf
theorem chg_t : ∀ (es : List Edge) (F : Int → Int), chg es F = true → ∃ e ∈ es, runR es F e.2.2 < F e.2.2
  | [], F, h => by cases h
  | x :: es, F, h => by
    by_cases c : F x.2.1 ≠ farI ∧ F x.2.1 + x.1 < F x.2.2
    · refine ⟨x, List.mem_cons_self .., ?_⟩
      have a := runR_le es (rlx F x) x.2.2
      have b := rlx_edge F x c.1
      show runR es (rlx F x) x.2.2 < _
      omega
    · unfold chg at h
      rw [decide_eq_false c, Bool.false_or] at h
      obtain ⟨e, h1, h2⟩ := chg_t es (rlx F x) h
      refine ⟨e, List.mem_cons_of_mem _ h1, ?_⟩
      have := rlx_le F x e.2.2
      show runR es (rlx F x) e.2.2 < _
      omega
theorem D_le {Ed : Edge → Prop} {g : Int} {D F : Int → Int} (ok : okE Ed) (g0 : 0 ≤ g) (g7 : g < 7) (hD : isD Ed g D) (hF : JF Ed g F) : ∀ (n : Nat) (k : Int), 0 ≤ k → k < 7 → F k ≤ n → F k ≠ farI → D k ≤ F k := by
  intro n
  induction n with
  | zero =>
    intro k k0 k7 hn kf
    obtain ⟨h1, h2, h3, h4⟩ := hF
    by_cases e : k = g
    · rw [e, h1, hD.1.1]; exact Int.le_refl _
    · obtain ⟨e, x1, x2, x3, x4⟩ := h3 k k0 k7 e kf
      obtain ⟨o1, _, o3, o4, _⟩ := ok e x1
      have := h2 e.2.1 o3 o4
      omega
  | succ n ih =>
    intro k k0 k7 hn kf
    have hF' := hF
    obtain ⟨h1, h2, h3, h4⟩ := hF
    by_cases e : k = g
    · rw [e, h1, hD.1.1]; exact Int.le_refl _
    · obtain ⟨e, x1, x2, x3, x4⟩ := h3 k k0 k7 e kf
      obtain ⟨o1, _, o3, o4, _⟩ := ok e x1
      have a := ih e.2.1 o3 o4 (by omega) x3
      have b := h2 e.2.1 o3 o4
      have c := hD.2 e x1 (by omega)
      rw [x2] at c
      omega
theorem D_le' {Ed : Edge → Prop} {g : Int} {D F : Int → Int} (ok : okE Ed) (g0 : 0 ≤ g) (g7 : g < 7) (hD : isD Ed g D) (hF : JF Ed g F) {k : Int} (k0 : 0 ≤ k) (k7 : k < 7) : D k ≤ F k := by
  have h := hF.2.1 k k0 k7
  by_cases e : F k = farI
  · have := hD.1.2.1 k k0 k7
    omega
  · exact D_le ok g0 g7 hD hF (F k).toNat k k0 k7 (by omega) e
theorem D_uni {Ed : Edge → Prop} {g : Int} {D D' : Int → Int} (ok : okE Ed) (g0 : 0 ≤ g) (g7 : g < 7) (h : isD Ed g D) (h' : isD Ed g D') {k : Int} (k0 : 0 ≤ k) (k7 : k < 7) : D k = D' k := by
  have a := D_le' ok g0 g7 h h'.1 k0 k7
  have b := D_le' ok g0 g7 h' h.1 k0 k7
  omega
theorem JF_0 {Ed : Edge → Prop} {g : Int} {F : Int → Int} (g0 : 0 ≤ g) (g7 : g < 7) (h : ∀ k, 0 ≤ k → k < 7 → F k = if k = g then 0 else farI) : JF Ed g F := by
  have hg := h g g0 g7
  rw [if_pos rfl] at hg
  refine ⟨hg, ?_, ?_, ?_⟩
  · intro k k0 k7
    rw [h k k0 k7]
    split <;> decide
  · intro k k0 k7 kg kf
    rw [h k k0 k7, if_neg kg] at kf
    exact absurd rfl kf
  · intro k k0 k7 kf
    by_cases e : k = g
    · rw [e, hg]
      have := nfin_pos (F := F) g0 g7 (by rw [hg]; decide)
      omega
    · rw [h k k0 k7, if_neg e] at kf
      exact absurd rfl kf
theorem D_ex {Ed : Edge → Prop} {g : Int} (ok : okE Ed) (g0 : 0 ≤ g) (g7 : g < 7) : ∃ D, isD Ed g D := by
  have key : ∀ (n : Nat) (F : Int → Int), JF Ed g F → sumTo F 7 ≤ n → ∃ D, isD Ed g D := by
    intro n
    induction n with
    | zero =>
      intro F hF hs
      by_cases c : ∀ e, Ed e → F e.2.1 ≠ farI → F e.2.2 ≤ F e.2.1 + e.1
      · exact ⟨F, hF, c⟩
      · exfalso
        apply c
        intro e he hf
        obtain ⟨o1, _, o3, o4, o5, o6⟩ := ok e he
        have nn : ∀ k, 0 ≤ k → k < 7 → 0 ≤ F k := fun k k0 k7 => (hF.2.1 k k0 k7).1
        have hz : ∀ k, 0 ≤ k → k < 7 → F k = 0 := by
          intro k k0 k7
          apply Classical.byContradiction
          intro hc
          have := sumTo_lt (f := fun _ => 0) (g := F) (d := 7) (fun j j0 j1 => nn j j0 (by omega)) ⟨k, k0, by omega, by have := nn k k0 k7; omega⟩
          have e0 : sumTo (fun _ => 0) 7 = 0 := by decide
          omega
        rw [hz _ o3 o4, hz _ o5 o6]
        omega
    | succ n ih =>
      intro F hF hs
      by_cases c : ∀ e, Ed e → F e.2.1 ≠ farI → F e.2.2 ≤ F e.2.1 + e.1
      · exact ⟨F, hF, c⟩
      · have : ∃ e, Ed e ∧ F e.2.1 ≠ farI ∧ F e.2.1 + e.1 < F e.2.2 := by
          apply Classical.byContradiction
          intro hc
          apply c
          intro e he hf
          apply Classical.byContradiction
          intro hq
          exact hc ⟨e, he, hf, by omega⟩
        obtain ⟨e, he, hf, hlt⟩ := this
        obtain ⟨o1, _, o3, o4, o5, o6⟩ := ok e he
        have hJ := rlx_JF ok g0 g7 he hF
        have hs2 : sumTo (rlx F e) 7 < sumTo F 7 := by
          refine sumTo_lt (fun j _ _ => rlx_le F e j) ⟨e.2.2, o5, by omega, ?_⟩
          have := rlx_edge F e hf
          omega
        exact ih _ hJ (by omega)
  have h0 : JF Ed g (fun k => if k = g then 0 else farI) := JF_0 g0 g7 (fun _ _ _ => rfl)
  exact key (sumTo (fun k => if k = g then 0 else farI) 7).toNat _ h0 (by omega)
/-- How many places are nearer. -/
def rkD (D : Int → Int) (k : Int) : Int := sumTo (fun j => if D j < D k then 1 else 0) 7
theorem rk_6 (D : Int → Int) {k : Int} (k0 : 0 ≤ k) (k7 : k < 7) : 0 ≤ rkD D k ∧ rkD D k ≤ 6 := by
  have a := sumTo_lt (f := fun j => if D j < D k then 1 else 0) (g := fun _ => 1) (d := 7) (fun j _ _ => by split <;> decide) ⟨k, k0, k7, by rw [if_neg (by omega)]; decide⟩
  have b := sumTo_le (f := fun _ => 0) (g := fun j => if D j < D k then 1 else 0) (d := 7) (fun j _ _ => by split <;> decide)
  have e0 : sumTo (fun _ => 0) 7 = 0 := by decide
  have e1 : sumTo (fun _ => 1) 7 = 7 := by decide
  unfold rkD
  omega
theorem rk_lt {D : Int → Int} {a k : Int} (a0 : 0 ≤ a) (a7 : a < 7) (h : D a < D k) : rkD D a < rkD D k := by
  unfold rkD
  refine sumTo_lt (fun j _ _ => ?_) ⟨a, a0, a7, ?_⟩
  · by_cases q : D j < D a
    · rw [if_pos q, if_pos (by omega)]; exact Int.le_refl _
    · rw [if_neg q]; split <;> decide
  · rw [if_neg (by omega), if_pos h]; decide
/-- After r rounds all places are right that fewer than r are nearer than. -/
def upTo (D F : Int → Int) (r : Int) : Prop := ∀ k, 0 ≤ k → k < 7 → D k ≠ farI → rkD D k ≤ r → F k = D k
theorem upTo_s {Ed : Edge → Prop} {g r : Int} {D F : Int → Int} {es : List Edge} (ok : okE Ed) (g0 : 0 ≤ g) (g7 : g < 7) (hD : isD Ed g D) (hF : JF Ed g F) (h1 : ∀ e ∈ es, Ed e) (h2 : ∀ e, Ed e → e ∈ es) (hu : upTo D F r) : upTo D (runR es F) (r + 1) := by
  intro k k0 k7 kf kr
  have hJ := runR_JF ok g0 g7 es F h1 hF
  have lo := D_le' ok g0 g7 hD hJ k0 k7
  by_cases e : k = g
  · subst e; rw [hJ.1, hD.1.1]
  · obtain ⟨e, x1, x2, x3, x4⟩ := hD.1.2.2.1 k k0 k7 e kf
    obtain ⟨o1, _, o3, o4, _⟩ := ok e x1
    have hlt := rk_lt (D := D) (k := k) o3 o4 (by omega)
    have ha := hu e.2.1 o3 o4 x3 (by omega)
    have hr := runR_edge ok g0 g7 es F e h1 hF (h2 e x1) (by rw [ha]; exact x3)
    rw [ha, x2] at hr
    omega
theorem upTo_6 {Ed : Edge → Prop} {g r : Int} {D F : Int → Int} (ok : okE Ed) (g0 : 0 ≤ g) (g7 : g < 7) (hD : isD Ed g D) (hF : JF Ed g F) (h6 : 6 ≤ r) (hu : upTo D F r) : ∀ k, 0 ≤ k → k < 7 → F k = D k := by
  intro k k0 k7
  by_cases e : D k = farI
  · have := D_le' ok g0 g7 hD hF k0 k7
    have := hF.2.1 k k0 k7
    omega
  · have := rk_6 D k0 k7
    exact hu k k0 k7 e (by omega)
theorem upTo_0 {Ed : Edge → Prop} {g : Int} {D F : Int → Int} (ok : okE Ed) (g0 : 0 ≤ g) (g7 : g < 7) (hD : isD Ed g D) (hF : JF Ed g F) : upTo D F 0 := by
  intro k k0 k7 kf kr
  by_cases e : k = g
  · subst e; rw [hF.1, hD.1.1]
  · exfalso
    obtain ⟨e, x1, x2, x3, x4⟩ := hD.1.2.2.1 k k0 k7 e kf
    obtain ⟨o1, _, o3, o4, _⟩ := ok e x1
    have hlt := rk_lt (D := D) (k := k) o3 o4 (by omega)
    have := rk_6 D o3 o4
    omega
theorem isD_cg {Ed : Edge → Prop} {g : Int} {D D' : Int → Int} (ok : okE Ed) (g0 : 0 ≤ g) (g7 : g < 7) (h : isD Ed g D) (e : ∀ k, 0 ≤ k → k < 7 → D' k = D k) : isD Ed g D' := by
  obtain ⟨⟨h1, h2, h3, h4⟩, h5⟩ := h
  have hn : nfin D' = nfin D := sumTo_cg (fun j j0 j1 => by rw [e j j0 (by omega)])
  refine ⟨⟨?_, ?_, ?_, ?_⟩, ?_⟩
  · rw [e g g0 g7]; exact h1
  · intro k k0 k7; rw [e k k0 k7]; exact h2 k k0 k7
  · intro k k0 k7 kg kf
    rw [e k k0 k7] at kf ⊢
    obtain ⟨x, x1, x2, x3, x4⟩ := h3 k k0 k7 kg kf
    obtain ⟨o1, _, o3, o4, _⟩ := ok x x1
    exact ⟨x, x1, x2, by rw [e _ o3 o4]; exact x3, by rw [e _ o3 o4]; exact x4⟩
  · intro k k0 k7 kf
    rw [e k k0 k7] at kf ⊢
    rw [hn]
    exact h4 k k0 k7 kf
  · intro x hx hf
    obtain ⟨o1, _, o3, o4, o5, o6⟩ := ok x hx
    rw [e _ o3 o4] at hf ⊢
    rw [e _ o5 o6]
    exact h5 x hx hf
/-- A round that changes nothing has found the distance. -/
theorem isD_of {Ed : Edge → Prop} {g : Int} {F : Int → Int} {es : List Edge} (hF : JF Ed g F) (h2 : ∀ e, Ed e → e ∈ es) (hc : chg es F = false) : isD Ed g F :=
  ⟨hF, fun e he hf => (chg_f es F hc).2 e (h2 e he) hf⟩
/-- Once it is the distance, no round changes it. -/
theorem chg_D {Ed : Edge → Prop} {g : Int} {D F : Int → Int} {es : List Edge} (ok : okE Ed) (g0 : 0 ≤ g) (g7 : g < 7) (hD : isD Ed g D) (hF : JF Ed g F) (h1 : ∀ e ∈ es, Ed e) (he : ∀ k, 0 ≤ k → k < 7 → F k = D k) : chg es F = false := by
  cases hc : chg es F
  · rfl
  · exfalso
    obtain ⟨e, x1, x2⟩ := chg_t es F hc
    obtain ⟨o1, _, o3, o4, o5, o6⟩ := ok e (h1 e x1)
    have hJ := runR_JF ok g0 g7 es F h1 hF
    have := D_le' ok g0 g7 hD hJ o5 o6
    have := he e.2.2 o5 o6
    omega
/-- Edges that go both ways: it is as far there as back. -/
theorem D_sym {Ed : Edge → Prop} {a b : Int} {D E : Int → Int} (ok : okE Ed) (sy : ∀ w x y, Ed (w, x, y) → Ed (w, y, x)) (a0 : 0 ≤ a) (a7 : a < 7) (b0 : 0 ≤ b) (b7 : b < 7) (hD : isD Ed a D) (hE : isD Ed b E) : E a ≤ D b := by
  by_cases e : D b = farI
  · have := hE.1.2.1 a a0 a7
    omega
  · have key : ∀ (n : Nat) (k : Int), 0 ≤ k → k < 7 → D k ≠ farI → D k ≤ n → E k ≠ farI → E a ≤ E k + D k := by
      intro n
      induction n with
      | zero =>
        intro k k0 k7 kf kn ke
        by_cases q : k = a
        · rw [q, hD.1.1]; omega
        · exfalso
          obtain ⟨e, x1, x2, x3, x4⟩ := hD.1.2.2.1 k k0 k7 q kf
          obtain ⟨o1, _, o3, o4, _⟩ := ok e x1
          have := hD.1.2.1 e.2.1 o3 o4
          omega
      | succ n ih =>
        intro k k0 k7 kf kn ke
        by_cases q : k = a
        · rw [q, hD.1.1]; omega
        · obtain ⟨e, x1, x2, x3, x4⟩ := hD.1.2.2.1 k k0 k7 q kf
          obtain ⟨o1, o2, o3, o4, o5, o6⟩ := ok e x1
          have s := sy e.1 e.2.1 e.2.2 x1
          have t := hE.2 _ s
          dsimp only at t
          rw [x2] at t
          have t2 := t ke
          have lo := hE.1.2.2.2 k k0 k7 ke
          have nf := nfin_in E
          have hfar : farI = 268435456 := rfl
          have := ih e.2.1 o3 o4 x3 (by omega) (by omega)
          omega
    have := key (D b).toNat b b0 b7 e (by have := hD.1.2.1 b b0 b7; omega) (by rw [hE.1.1]; decide)
    rw [hE.1.1] at this
    omega
