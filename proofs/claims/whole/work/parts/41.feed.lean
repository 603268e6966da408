theorem and255 (x : Int32) : x.toInt8.toInt32 &&& 255 = x &&& 255 := by
  apply Int32.toBitVec_inj.mp
  simp only [Int32.toBitVec_and, Int8.toBitVec_toInt32, Int32.toBitVec_toInt8]
  apply BitVec.eq_of_getLsbD_eq
  intro i hi
  simp only [BitVec.getLsbD_and, BitVec.getLsbD_signExtend]
  have h255 : (Int32.toBitVec 255).getLsbD i = decide (i < 8) := by
    rcases (by omega : i = 0 ∨ i = 1 ∨ i = 2 ∨ i = 3 ∨ i = 4 ∨ i = 5 ∨ i = 6 ∨ i = 7 ∨ i = 8 ∨ i = 9 ∨ i = 10 ∨ i = 11 ∨ i = 12 ∨ i = 13 ∨ i = 14 ∨ i = 15 ∨ i = 16 ∨ i = 17 ∨ i = 18 ∨ i = 19 ∨ i = 20 ∨ i = 21 ∨ i = 22 ∨ i = 23 ∨ i = 24 ∨ i = 25 ∨ i = 26 ∨ i = 27 ∨ i = 28 ∨ i = 29 ∨ i = 30 ∨ i = 31) with h | h | h | h | h | h | h | h | h | h | h | h | h | h | h | h | h | h | h | h | h | h | h | h | h | h | h | h | h | h | h | h <;> subst h <;> rfl
  rw [h255]
  by_cases h8 : i < 8
  · simp [h8, hi]
  · simp [h8]
theorem jand_jb (z : Int) : jand (jb z) 255 = jand z 255 := by
  unfold jand jb jI
  rw [Int32.ofInt_toInt]
  exact congrArg Int32.toInt (and255 _)

def pt (μ : Mem) (v : Int) : Mem := ms (ms μ 1 (μ 0 1) v) 0 1 (μ 0 1 + 1)
def qt (ρ : Mem) (v : Int) : Mem := ms (ms ρ 114 (ρ 111 5) v) 111 5 (ρ 111 5 + 1)
def pts (μ : Mem) : List Int → Mem
  | [] => μ
  | v :: l => pts (pt μ v) l
def qts (ρ : Mem) : List Int → Mem
  | [] => ρ
  | v :: l => qts (qt ρ v) l
theorem pt_n (μ : Mem) (v : Int) : pt μ v 0 1 = μ 0 1 + 1 := ms_eq _ _ _ _
theorem qt_n (ρ : Mem) (v : Int) : qt ρ v 111 5 = ρ 111 5 + 1 := ms_eq _ _ _ _
theorem pts_n : ∀ (l : List Int) (μ : Mem), pts μ l 0 1 = μ 0 1 + l.length
  | [], μ => by simp [pts]
  | v :: l, μ => by
    rw [pts, pts_n l, pt_n]
    simp only [List.length_cons]
    omega
theorem qts_n : ∀ (l : List Int) (ρ : Mem), qts ρ l 111 5 = ρ 111 5 + l.length
  | [], ρ => by simp [qts]
  | v :: l, ρ => by
    rw [qts, qts_n l, qt_n]
    simp only [List.length_cons]
    omega
theorem pts_o {c i : Int} (h : c ≠ 1 ∧ ¬ (c = 0 ∧ i = 1)) : ∀ (l : List Int) (μ : Mem), pts μ l c i = μ c i
  | [], μ => rfl
  | v :: l, μ => by
    rw [pts, pts_o h l]
    unfold pt ms
    rw [if_neg (by omega), if_neg (by omega)]
theorem qts_o {c i : Int} (h : c ≠ 114 ∧ ¬ (c = 111 ∧ i = 5)) : ∀ (l : List Int) (ρ : Mem), qts ρ l c i = ρ c i
  | [], ρ => rfl
  | v :: l, ρ => by
    rw [qts, qts_o h l]
    unfold qt ms
    rw [if_neg (by omega), if_neg (by omega)]
theorem pts_app : ∀ (l m : List Int) (μ : Mem), pts μ (l ++ m) = pts (pts μ l) m
  | [], m, μ => rfl
  | v :: l, m, μ => by
    show pts (pt μ v) (l ++ m) = pts (pts (pt μ v) l) m
    exact pts_app l m _
theorem TapeR_pt {μ ρ : Mem} {v : Int} (h : TapeR μ ρ) (h9 : μ 0 1 < 900) : TapeR (pt μ v) (qt ρ (jand v 255)) := by
  obtain ⟨a, b, c, d⟩ := h
  refine ⟨?_, ?_, ?_, ?_⟩
  · rw [pt_n, qt_n, a]
  · rw [pt_n]; omega
  · rw [pt_n]; omega
  · intro i i1 i2
    rw [pt_n] at i2
    unfold pt qt
    rw [ms_nc (by decide : (114 : Int) ≠ 111), ms_nc (by decide : (1 : Int) ≠ 0), ← a]
    by_cases e : i = μ 0 1
    · rw [e, ms_eq, ms_eq]
    · rw [ms_ni e, ms_ni e]
      exact d i i1 (by omega)
theorem TapeR_pts : ∀ (l : List Int) {μ ρ : Mem}, TapeR μ ρ → μ 0 1 + l.length ≤ 900 → TapeR (pts μ l) (qts ρ (l.map (fun v => jand v 255)))
  | [], μ, ρ, h, _ => h
  | v :: l, μ, ρ, h, h9 => by
    simp only [List.length_cons] at h9
    exact TapeR_pts l (TapeR_pt h (by omega)) (by rw [pt_n]; omega)
def wordB (a : Int) : List Int := [jb (jb (jshr a 24)), jb (jb (jshr a 16)), jb (jb (jshr a 8)), jb (jb (jshr a 0))]
theorem put_w {a s : Int} {μ : Mem} {n : Nat} (h1 : 0 ≤ μ 0 1) (h2 : μ 0 1 < 900) (h3 : 0 ≤ nrm s) : f_X11_putOnTape_w3 (n + 1) 0 a s μ = f_X11_putOnTape_w3 n 0 a (s + (-8)) (pt μ (jb (jb (jshr a s)))) := by
  rw [f_X11_putOnTape_w3, if_neg (by omega), nrm_id (z := μ 0 1) (by omega) (by omega), if_neg (by omega), if_neg (by show ¬ ((900 : Int) ≤ μ 0 1); omega), gd_pos ⟨h1, h2⟩]
  simp only [nm_eq, f_X11_putOnTape_j49, Int.zero_add]
  rw [ms_nc (by decide : (0 : Int) ≠ 1)]
  rfl
theorem putOnTape_eq {a : Int} {μ : Mem} (h1 : 0 ≤ μ 0 1) (h2 : μ 0 1 + 4 ≤ 900) : f_X11_putOnTape 0 a μ = some (0, pts μ (wordB a)) := by
  unfold f_X11_putOnTape
  rw [show FU = 9995 + 1 + 1 + 1 + 1 + 1 from rfl, put_w h1 (by omega) (by decide)]
  rw [put_w (by rw [pt_n]; omega) (by rw [pt_n]; omega) (by decide)]
  rw [put_w (by rw [pt_n, pt_n]; omega) (by rw [pt_n, pt_n]; omega) (by decide)]
  rw [put_w (by rw [pt_n, pt_n, pt_n]; omega) (by rw [pt_n, pt_n, pt_n]; omega) (by decide)]
  rw [f_X11_putOnTape_w3, if_pos (by decide)]
  rfl
def selF (a b c d e k : Int) : Int := if k < 4 then a else if k < 8 then b else if k < 12 then c else if k < 16 then d else e
def feedV (a b c d e k : Int) : Int := jand (jshr (selF a b c d e k) (24 - (8 * (jrem k 4)))) 255
def feedL (a b c d e : Int) : Nat → Int → List Int
  | 0, _ => []
  | n + 1, k => feedV a b c d e k :: feedL a b c d e n (k + 1)
theorem feed_j {a b c d e k s : Int} {n : Nat} {ρ : Mem} (h1 : 0 ≤ ρ 111 5) (h2 : ρ 111 5 < 900) (hs : s = selF a b c d e k) : f_X12_feed_j77 (f_X12_feed_w24 n) 111 a b c d e k s ρ = f_X12_feed_w24 n 111 a b c d e (k + 1) (qt ρ (feedV a b c d e k)) := by
  subst hs
  unfold f_X12_feed_j77
  rw [nrm_id (z := ρ 111 5) (by omega) (by omega), gd_pos ⟨h1, h2⟩]
  simp only [nm_eq, Int.reduceAdd]
  rw [ms_nc (by decide : (111 : Int) ≠ 114)]
  rfl
theorem feed_s {a b c d e k : Int} {n : Nat} {ρ : Mem} (h1 : 0 ≤ ρ 111 5) (h2 : ρ 111 5 < 900) (k1 : 0 ≤ k) (k2 : k < 20) : f_X12_feed_w24 (n + 1) 111 a b c d e k ρ = f_X12_feed_w24 n 111 a b c d e (k + 1) (qt ρ (feedV a b c d e k)) := by
  rw [f_X12_feed_w24, nrm_id (z := k) (by omega) (by omega), if_neg (by show ¬ ((20 : Int) ≤ k); omega)]
  rw [show nrm 4 = 4 from rfl, show nrm 8 = 8 from rfl, show nrm 12 = 12 from rfl, show nrm 16 = 16 from rfl]
  by_cases g4 : 4 ≤ k
  · rw [if_pos g4]
    by_cases g8 : 8 ≤ k
    · rw [if_pos g8]
      by_cases g12 : 12 ≤ k
      · rw [if_pos g12]
        by_cases g16 : 16 ≤ k
        · rw [if_pos g16]
          exact feed_j h1 h2 (by unfold selF; rw [if_neg (by omega), if_neg (by omega), if_neg (by omega), if_neg (by omega)])
        · rw [if_neg g16]
          exact feed_j h1 h2 (by unfold selF; rw [if_neg (by omega), if_neg (by omega), if_neg (by omega), if_pos (by omega)])
      · rw [if_neg g12]
        exact feed_j h1 h2 (by unfold selF; rw [if_neg (by omega), if_neg (by omega), if_pos (by omega)])
    · rw [if_neg g8]
      exact feed_j h1 h2 (by unfold selF; rw [if_neg (by omega), if_pos (by omega)])
  · rw [if_neg g4]
    exact feed_j h1 h2 (by unfold selF; rw [if_pos (by omega)])
theorem feed_w {a b c d e : Int} : ∀ (r k n : Nat), k + r = 20 → r < n → ∀ ρ : Mem, 0 ≤ ρ 111 5 → ρ 111 5 + r ≤ 900 → f_X12_feed_w24 n 111 a b c d e k ρ = some (ρ 111 5 + r, qts ρ (feedL a b c d e r k)) := by
  intro r
  induction r with
  | zero =>
    intro k n h1 h2 ρ h3 h4
    obtain ⟨n, rfl⟩ : ∃ m, n = m + 1 := ⟨n - 1, by omega⟩
    have hk : (k : Int) = 20 := by omega
    rw [f_X12_feed_w24, hk, if_pos (Int.le_refl _)]
    simp [feedL, qts]
  | succ r ih =>
    intro k n h1 h2 ρ h3 h4
    obtain ⟨n, rfl⟩ : ∃ m, n = m + 1 := ⟨n - 1, by omega⟩
    rw [feed_s h3 (by omega) (by omega) (by omega)]
    have := ih (k + 1) n (by omega) (by omega) (qt ρ (feedV a b c d e k)) (by rw [qt_n]; omega) (by rw [qt_n]; omega)
    rw [show ((k + 1 : Nat) : Int) = (k : Int) + 1 by omega] at this
    rw [this, qt_n, feedL, qts]
    simp only [Option.some.injEq, Prod.mk.injEq, and_true]
    omega
theorem feed_lists (a b c d e : Int) : (wordB a ++ (wordB b ++ (wordB c ++ (wordB d ++ wordB e)))).map (fun v => jand v 255) = feedL a b c d e 20 0 := by
  simp only [wordB, List.cons_append, List.nil_append, List.map_cons, List.map_nil, jand_jb, feedL]
  rfl
theorem op_feed (a b c d e : Int) : Op2 (f_X11_feed 0 a b c d e) (f_X12_feed 111 a b c d e) := by
  intro μ ρ h
  have h' := RR_co (SaC_rfl μ) (SaR_thrown ρ 0) h
  generalize hρ : ms ρ 111 0 0 = ρ1 at h'
  unfold f_X11_feed f_X12_feed
  simp only [nm_eq, hρ]
  have hr := h'
  obtain ⟨h1, h2, h3, h4, h5, h8⟩ := h'
  have t := h1
  obtain ⟨t1, t2, t3, _⟩ := t
  rw [show nrm 900 = 900 from rfl, nrm_id (z := μ 0 1 + 20) (by omega) (by omega), nrm_id (z := ρ1 111 5 + 20) (by omega) (by omega), ← t1]
  by_cases g : μ 0 1 + 20 ≤ 900
  · rw [if_pos g, if_pos g]
    have L4 : ∀ x, (wordB x).length = 4 := fun _ => rfl
    rw [bn_eq (putOnTape_eq t2 (by omega))]
    rw [bn_eq (putOnTape_eq (by rw [pts_n, L4]; omega) (by rw [pts_n, L4]; omega))]
    rw [bn_eq (putOnTape_eq (by rw [pts_n, pts_n, L4, L4]; omega) (by rw [pts_n, pts_n, L4, L4]; omega))]
    rw [bn_eq (putOnTape_eq (by rw [pts_n, pts_n, pts_n, L4, L4, L4]; omega) (by rw [pts_n, pts_n, pts_n, L4, L4, L4]; omega))]
    rw [bn_eq (putOnTape_eq (by rw [pts_n, pts_n, pts_n, pts_n, L4, L4, L4, L4]; omega) (by rw [pts_n, pts_n, pts_n, pts_n, L4, L4, L4, L4]; omega))]
    rw [← pts_app, ← pts_app, ← pts_app, ← pts_app]
    have hm := feed_w (a := a) (b := b) (c := c) (d := d) (e := e) 20 0 FU (by omega) (by unfold FU; omega) ρ1 (by omega) (by omega)
    simp only [Int.ofNat_zero, Int.natCast_zero] at hm
    rw [hm, ← feed_lists]
    have hl : (wordB a ++ (wordB b ++ (wordB c ++ (wordB d ++ wordB e)))).length = 20 := rfl
    have ht := TapeR_pts (wordB a ++ (wordB b ++ (wordB c ++ (wordB d ++ wordB e)))) h1 (by rw [hl]; omega)
    generalize wordB a ++ (wordB b ++ (wordB c ++ (wordB d ++ wordB e))) = l at hl ht
    simp only [wp_some]
    have h9 : ρ1 112 2 ≤ 9 := by
      have := LR_2 h3.2.1
      simpa [rowA] using this
    refine ⟨by rw [pts_n, hl, t1], RR_of ⟨ht, FaultR_c ?_ ?_ ?_ ?_ ?_ h2, NowR_c ?_ ?_ ?_ ?_ h3, HistR_c ?_ ?_ ?_ h9 h4, ?_⟩ ?_⟩
    · exact pts_o (by omega) l μ
    · exact pts_o (by omega) l μ
    · exact qts_o (by omega) _ ρ1
    · exact qts_o (by omega) _ ρ1
    · intro i hi; exact pts_o (by omega) l μ
    · intro c i c1 c2 c3 c4; exact pts_o (by omega) l μ
    · intro i; exact pts_o (by omega) l μ
    · intro i; exact pts_o (by omega) l μ
    · intro i _; exact qts_o (by omega) _ ρ1
    · exact pts_o (by omega) l μ
    · intro c i c1 c2; exact pts_o (by omega) l μ
    · intro i _; exact qts_o (by omega) _ ρ1
    · obtain ⟨h5, h6, h7⟩ := h5
      have old : ∀ i, (i = 0 ∨ i = 1) → ImgR μ ρ1 i → ImgR (pts μ l) (qts ρ1 (l.map (fun v => jand v 255))) i := by
        intro i hi h
        refine ImgR_c hi ?_ ?_ ?_ ?_ ?_ h
        · intro c i c1 c2 c3 c4; exact pts_o (by omega) l μ
        · intro j; exact pts_o (by omega) l μ
        · intro j; exact pts_o (by omega) l μ
        · exact qts_o (by omega) _ ρ1
        · intro j j1 j2; exact qts_o (by omega) _ ρ1
      refine ⟨old 0 (.inl rfl) h5, old 1 (.inr rfl) h6, ?_⟩
      rw [pts_o (by omega) l μ, qts_o (by omega) _ ρ1, qts_o (by omega) _ ρ1]
      exact h7
    · intro t t1 t2
      refine TrayR_c (μ := μ) (ρ := ρ1) ?_ ?_ ?_ ?_ ?_ (h8 t t1 t2)
      · intro j; exact pts_o (by omega) l μ
      · intro j; exact pts_o (by omega) l μ
      · exact qts_o (by omega) _ ρ1
      · exact qts_o (by omega) _ ρ1
      · intro j j1 j2; exact qts_o (by omega) _ ρ1
  · rw [if_neg g, if_neg g]
    simp only [wp_some]
    exact ⟨trivial, hr⟩
