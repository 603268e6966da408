theorem jdiv_nn {a b : Int} (a1 : 0 ≤ a) (a2 : a < 2147483648) (b1 : 0 < b) (b2 : b < 2147483648) : jdiv a b = a / b := by
  have ha : (jI a).toInt = a := nrm_id (by omega) a2
  have hb : (jI b).toInt = b := nrm_id (by omega) b2
  unfold jdiv
  rw [Int32.toInt_div, ha, hb, Int.tdiv_eq_ediv_of_nonneg a1]
  have h1 : 0 ≤ a / b := Int.ediv_nonneg a1 (by omega)
  have h2 : a / b ≤ a := Int.ediv_le_self b a1
  exact Int.bmod_eq_of_le (by omega) (by omega)
theorem jrem_nn {a b : Int} (a1 : 0 ≤ a) (a2 : a < 2147483648) (b1 : 0 < b) (b2 : b < 2147483648) : jrem a b = a % b := by
  have ha : (jI a).toInt = a := nrm_id (by omega) a2
  have hb : (jI b).toInt = b := nrm_id (by omega) b2
  have hd : (jI a / jI b).toInt = a / b := jdiv_nn a1 a2 b1 b2
  have h0 : 0 ≤ a % b := Int.emod_nonneg a (by omega)
  have h1 : a % b < b := Int.emod_lt_of_pos a b1
  have h2 : b * (a / b) + a % b = a := Int.mul_ediv_add_emod a b
  have h3 : 0 ≤ b * (a / b) := Int.mul_nonneg (by omega) (Int.ediv_nonneg a1 (by omega))
  have hm : (jI a / jI b * jI b).toInt = b * (a / b) := by
    rw [Int32.toInt_mul, hd, hb, Int.mul_comm]
    exact Int.bmod_eq_of_le (by omega) (by omega)
  unfold jrem
  rw [Int32.toInt_sub, ha, hm]
  rw [Int.bmod_eq_of_le (by omega) (by omega)]
  omega

def clampM (z : Int) : Int := if z ≤ 1000000 then (if -1000000 ≤ z then z else -1000000) else 1000000
/-- What two numbers make, by the reference's code. -/
def opM (c a b : Int) : Int :=
  if c = 3003 then (if a = b then 1 else 0) else if c = 3004 then (if a < b then 1 else 0) else if c = 3005 then (if b < a then 1 else 0)
  else if c = 3007 then jand a b else if c = 3008 then jor a b
  else if c = 3000 then clampM (a + b) else if c = 3001 then clampM (a - b) else clampM (a * b)
def evS (ws : Int → Int) (c : Int) (s : List Int) : List Int :=
  if c < 1000 then c :: s
  else if c < 3000 then ws (c - 1000) :: s
  else if c = 3006 then (match s with | a :: t => (1 - a) :: t | t => t)
  else if c = 3009 then (match s with | e :: t :: b :: r => (if b = 1 then t else e) :: r | t => t)
  else (match s with | b :: a :: r => opM c a b :: r | t => t)
def evR (ws cd : Int → Int) : Nat → Int → List Int → List Int
  | 0, _, s => s
  | n + 1, k, s => evR ws cd n (k + 1) (evS ws (cd k) s)
def okV (t : Bool) (v : Int) : Prop := match t with | true => v = 0 ∨ v = 1 | false => -1000000 ≤ v ∧ v ≤ 1000000
def okS : List Int → List Bool → Prop
  | [], [] => True
  | v :: s, b :: t => okV b v ∧ okS s t
  | _, _ => False
theorem okS_len : ∀ {s : List Int} {t : List Bool}, okS s t → s.length = t.length
  | [], [], _ => rfl
  | _ :: s, _ :: t, h => by simp only [List.length_cons]; rw [okS_len h.2]
  | [], _ :: _, h => h.elim
  | _ :: _, [], h => h.elim
theorem clamp_in (z : Int) : -1000000 ≤ clampM z ∧ clampM z ≤ 1000000 := by
  unfold clampM
  split
  · split
    · omega
    · omega
  · omega
theorem clamp_j {z : Int} (μ : Mem) (h1 : -9223372036854775808 ≤ z) (h2 : z < 9223372036854775808) : f_X4_reckon_j31 z μ = some (clampM z, μ) ∧ f_X12_between_j116 z μ = some (clampM z, μ) := by
  have a1 : nrm (kcmp z 1000000) ≤ 0 ↔ z ≤ 1000000 := by
    have := kcmp_pos (a := z) (b := 1000000)
    rw [nrl_id h1 h2, nrl_id (z := 1000000) (by decide) (by decide)] at this
    omega
  have a2 : 0 ≤ nrm (kcmp z (-1000000)) ↔ -1000000 ≤ z := by
    have := kcmp_neg (a := z) (b := -1000000)
    rw [nrl_id h1 h2, nrl_id (z := -1000000) (by decide) (by decide)] at this
    omega
  unfold f_X4_reckon_j31 f_X12_between_j116 clampM
  by_cases g1 : z ≤ 1000000
  · rw [if_pos (a1.mpr g1), if_pos g1]
    by_cases g2 : -1000000 ≤ z
    · rw [if_pos (a2.mpr g2), if_pos g2]; exact ⟨rfl, rfl⟩
    · rw [if_neg (fun h => g2 (a2.mp h)), if_neg g2]; exact ⟨rfl, rfl⟩
  · rw [if_neg (fun h => g1 (a1.mp h)), if_neg g1]; exact ⟨rfl, rfl⟩

/-- A stack in a row of numbers, its top first. -/
def stk (f : Int → Int) : List Int → Prop
  | [] => True
  | v :: s => f s.length = v ∧ stk f s
theorem stk_up {f g : Int → Int} : ∀ {s : List Int}, (∀ i : Int, 0 ≤ i → i < s.length → g i = f i) → stk f s → stk g s
  | [], _, _ => trivial
  | v :: s, h, k => by
    refine ⟨?_, stk_up (fun i i1 i2 => h i i1 (by simp only [List.length_cons]; omega)) k.2⟩
    rw [h s.length (by omega) (by simp only [List.length_cons]; omega)]
    exact k.1
def StC (X : Int) (μ : Mem) (s : List Int) : Prop := μ X 6 = s.length ∧ s.length ≤ 64 ∧ stk (μ (X + 5)) s
def ScX (X : Int) (μ μ' : Mem) : Prop := ∀ c i, ¬ (c = X ∧ i = 6) → c ≠ X + 5 → μ' c i = μ c i
theorem ScX_tr {X : Int} {a b c : Mem} (h : ScX X a b) (k : ScX X b c) : ScX X a c := fun x i e f => (k x i e f).trans (h x i e f)
theorem ScX_rf {X : Int} {a : Mem} : ScX X a a := fun _ _ _ _ => rfl
theorem push_eq {X v : Int} {μ : Mem} {s : List Int} (h : StC X μ s) (h64 : s.length < 64) : ∃ μ', f_X4_push X v μ = some (0, μ') ∧ StC X μ' (v :: s) ∧ ScX X μ μ' := by
  obtain ⟨h1, h2, h3⟩ := h
  unfold f_X4_push
  rw [h1, nrm_id (z := (s.length : Int)) (by omega) (by omega), if_neg (by omega), if_neg (by show ¬ ((64 : Int) ≤ s.length); omega), gd_pos (by omega), nm_eq, nm_eq]
  refine ⟨_, rfl, ⟨?_, by simp only [List.length_cons]; omega, ?_, ?_⟩, ?_⟩
  · rw [ms_eq, ms_nc (by omega), h1]; simp only [List.length_cons]; omega
  · rw [ms_nc (by omega), ms_eq]
  · refine stk_up (f := μ (X + 5)) (fun i i1 i2 => ?_) h3
    rw [ms_nc (by omega), ms_ni (by omega)]
  · intro c i e f
    unfold ms
    rw [if_neg e, if_neg (fun x => f x.1)]
theorem pop_eq {X v : Int} {μ : Mem} {s : List Int} (h : StC X μ (v :: s)) : ∃ μ', f_X4_pop X μ = some (v, μ') ∧ StC X μ' s ∧ ScX X μ μ' := by
  obtain ⟨h1, h2, h3, h4⟩ := h
  simp only [List.length_cons] at h1 h2
  have e : μ X 6 - 1 = s.length := by omega
  unfold f_X4_pop
  rw [nrm_id (z := μ X 6) (by omega) (by omega), if_neg (by show ¬ (μ X 6 < 1); omega), if_pos (by show μ X 6 ≤ 64; omega), nm_eq, ms_eq, e, nrm_id (z := (s.length : Int)) (by omega) (by omega), gd_pos (by omega), ms_nc (by omega), h3]
  refine ⟨_, rfl, ⟨?_, by omega, ?_⟩, ?_⟩
  · rw [ms_eq]
  · refine stk_up (f := μ (X + 5)) (fun i i1 i2 => ?_) h4
    rw [ms_nc (by omega)]
  · intro c i e f
    unfold ms
    rw [if_neg e]
