/-! a rule's codes: the reference's sign as a number, the class's code of it, the types on the stack; both reckon alike -/
def cOf (s : Nat) : Int32 := if s % 16 = 0 then nI (s / 16) else if s % 16 = 1 then (-1) - nI (s / 16) else ([0, 0, -23, -24, -25, -26, -28, -29, -30, -31, -32, -20, -21, -22, -27] : List Int32).getD (s % 16) 0
def tyStep (s : Nat) (st : List Bool) : Option (List Bool) :=
  if s % 16 = 0 then (if s / 16 < 100000 then some (false :: st) else none)
  else if s % 16 = 1 then (if s / 16 < 12 then some (false :: st) else none)
  else if s = 11 then (match st with
    | true :: t => some (true :: t)
    | _ => none)
  else match st with
    | true :: true :: t => if s = 12 ∨ s = 13 then some (true :: t) else none
    | false :: false :: t => if s = 2 ∨ s = 3 ∨ s = 4 ∨ s = 5 ∨ s = 14 then some (false :: t) else if s = 6 ∨ s = 7 ∨ s = 8 ∨ s = 9 ∨ s = 10 then some (true :: t) else none
    | _ => none
def tyRun (g : Nat → Nat) : Nat → Nat → List Bool → Option (List Bool)
  | 0, _, st => some st
  | d + 1, i, st => match tyStep (g i) st with
    | some t => tyRun g d (i + 1) t
    | none => none
/-- how many values from i on -/
def nV (g : Nat → Nat) : Nat → Nat → Nat
  | 0, _ => 0
  | d + 1, i => (if g i % 16 < 2 then 1 else 0) + nV g d (i + 1)
/-- both stacks hold the same, truths are 0 or 1 -/
def Sk : List Bool → (Nat → Int64) → (Nat → Int64) → Prop
  | [], _, _ => True
  | t :: st, f, h => f st.length = h st.length ∧ (t = true → f st.length = 0 ∨ f st.length = 1) ∧ Sk st f h
theorem Sk_upd {f h : Nat → Int64} {j : Nat} {x y : Int64} : ∀ {st : List Bool}, Sk st f h → st.length ≤ j → Sk st (vp_updL f j x) (vp_updL h j y)
  | [], _, _ => trivial
  | t :: st, hk, hj => by
    have hj' : st.length < j := hj
    have e : st.length ≠ j := by omega
    refine ⟨?_, ?_, Sk_upd hk.2.2 (by omega)⟩
    · rw [updL_at, updL_at, if_neg e, if_neg e]; exact hk.1
    · rw [updL_at, if_neg e]; exact hk.2.1
theorem Sk_push {f h : Nat → Int64} {st : List Bool} {x : Int64} {t : Bool} (hk : Sk st f h) (ht : t = true → x = 0 ∨ x = 1) : Sk (t :: st) (vp_updL f st.length x) (vp_updL h st.length x) := by
  refine ⟨?_, ?_, Sk_upd hk (Nat.le_refl _)⟩
  · rw [updL_at, updL_at, if_pos rfl, if_pos rfl]
  · rw [updL_at, if_pos rfl]; exact ht
theorem zero_one_and (x y : Int64) (hx : x = 0 ∨ x = 1) (hy : y = 0 ∨ y = 1) : (if x = 0 then (0 : Int64) else if y = 0 then 0 else 1) = x &&& y ∧ (x &&& y = 0 ∨ x &&& y = 1) := by
  rcases hx with rfl | rfl <;> rcases hy with rfl | rfl <;> decide
theorem zero_one_or (x y : Int64) (hx : x = 0 ∨ x = 1) (hy : y = 0 ∨ y = 1) : (if x = 0 then (if y = 0 then (0 : Int64) else 1) else 1) = x ||| y ∧ (x ||| y = 0 ∨ x ||| y = 1) := by
  rcases hx with rfl | rfl <;> rcases hy with rfl | rfl <;> decide
theorem jn_2 (N : Nat) (x y : Int64) (κ : Cz) : p_Rule_joined N (cOf 2) x y κ = some (x + y, κ) ∧ p12_sumOfTwo N (nI 2) x y = some (x + y) := by
  have e : cOf 2 = (-23) := by decide
  constructor
  · unfold p_Rule_joined; rw [e, if_neg (by decide), if_neg (by decide), if_neg (by decide), if_neg (by decide), if_neg (by decide), if_neg (by decide), if_neg (by decide), if_neg (by decide), if_neg (by decide), if_pos rfl]
  · unfold p12_sumOfTwo; rw [if_neg (by decide), if_pos (by decide)]
theorem jn_3 (N : Nat) (x y : Int64) (κ : Cz) : p_Rule_joined N (cOf 3) x y κ = some (x - y, κ) ∧ p12_sumOfTwo N (nI 3) x y = some (x - y) := by
  have e : cOf 3 = (-24) := by decide
  constructor
  · unfold p_Rule_joined; rw [e, if_neg (by decide), if_neg (by decide), if_neg (by decide), if_neg (by decide), if_neg (by decide), if_neg (by decide), if_neg (by decide), if_neg (by decide), if_pos rfl]
  · unfold p12_sumOfTwo; rw [if_neg (by decide), if_neg (by decide), if_pos (by decide)]
theorem jn_4 (N : Nat) (x y : Int64) (κ : Cz) : p_Rule_joined N (cOf 4) x y κ = some (x * y, κ) ∧ p12_sumOfTwo N (nI 4) x y = some (x * y) := by
  have e : cOf 4 = (-25) := by decide
  constructor
  · unfold p_Rule_joined; rw [e, if_neg (by decide), if_neg (by decide), if_neg (by decide), if_neg (by decide), if_neg (by decide), if_neg (by decide), if_neg (by decide), if_pos rfl]
  · unfold p12_sumOfTwo; rw [if_neg (by decide), if_neg (by decide), if_neg (by decide), if_pos (by decide)]
theorem jn_5 (N : Nat) (x y : Int64) (κ : Cz) : p_Rule_joined N (cOf 5) x y κ = some ((if y = 0 then 0 else x / y), κ) ∧ p12_sumOfTwo N (nI 5) x y = some ((if y = 0 then 0 else x / y)) := by
  have e : cOf 5 = (-26) := by decide
  constructor
  · unfold p_Rule_joined
    rw [e, if_neg (by decide), if_neg (by decide), if_neg (by decide), if_neg (by decide), if_neg (by decide), if_neg (by decide), if_pos rfl]
    by_cases z : y = 0
    · rw [if_pos ((lg_cmp_eq _ _).mpr z), if_pos z]
    · rw [if_neg (fun q => z ((lg_cmp_eq _ _).mp q)), if_neg z, ck_t (show nzL y = true from decide_eq_true z)]
  · unfold p12_sumOfTwo
    rw [if_neg (by decide), if_neg (by decide), if_neg (by decide), if_neg (by decide), if_pos (by decide)]
    by_cases z : y = 0
    · rw [if_pos ((lg_cmp_eq _ _).mpr z), if_pos z]
    · rw [if_neg (fun q => z ((lg_cmp_eq _ _).mp q)), if_neg z, ck_t (show nzL y = true from decide_eq_true z)]
theorem jn_14 (N : Nat) (x y : Int64) (κ : Cz) : p_Rule_joined N (cOf 14) x y κ = some ((if y = 0 then 0 else x - x / y * y), κ) ∧ p12_sumOfTwo N (nI 14) x y = some ((if y = 0 then 0 else x - x / y * y)) := by
  have e : cOf 14 = (-27) := by decide
  constructor
  · unfold p_Rule_joined
    rw [e, if_neg (by decide), if_neg (by decide), if_neg (by decide), if_neg (by decide), if_neg (by decide), if_pos rfl]
    by_cases z : y = 0
    · rw [if_pos ((lg_cmp_eq _ _).mpr z), if_pos z]
    · rw [if_neg (fun q => z ((lg_cmp_eq _ _).mp q)), if_neg z, ck_t (show nzL y = true from decide_eq_true z)]
  · unfold p12_sumOfTwo
    rw [if_neg (by decide), if_neg (by decide), if_neg (by decide), if_neg (by decide), if_neg (by decide), if_neg (by decide), if_neg (by decide), if_neg (by decide), if_neg (by decide), if_neg (by decide), if_neg (by decide), if_neg (by decide), if_neg (by decide), if_pos (by decide)]
    by_cases z : y = 0
    · rw [if_pos ((lg_cmp_eq _ _).mpr z), if_pos z]
    · rw [if_neg (fun q => z ((lg_cmp_eq _ _).mp q)), if_neg z, ck_t (show nzL y = true from decide_eq_true z)]
theorem jn_6 (N : Nat) (x y : Int64) (κ : Cz) : p_Rule_joined N (cOf 6) x y κ = some ((if x < y then 1 else 0), κ) ∧ p12_sumOfTwo N (nI 6) x y = some ((if x < y then 1 else 0)) := by
  have e : cOf 6 = (-28) := by decide
  constructor
  · unfold p_Rule_joined
    rw [e, if_neg (by decide), if_neg (by decide), if_neg (by decide), if_neg (by decide), if_pos rfl]
    by_cases z : x < y
    · rw [if_neg (fun q => Int64.not_le.mpr z ((lg_cmp_ge _ _).mp q)), if_pos z]
    · rw [if_pos ((lg_cmp_ge _ _).mpr (Int64.not_lt.mp z)), if_neg z]
  · unfold p12_sumOfTwo
    rw [if_neg (by decide), if_neg (by decide), if_neg (by decide), if_neg (by decide), if_neg (by decide), if_pos (by decide)]
    by_cases z : x < y
    · rw [if_neg (fun q => Int64.not_le.mpr z ((lg_cmp_ge _ _).mp q)), if_pos z]
    · rw [if_pos ((lg_cmp_ge _ _).mpr (Int64.not_lt.mp z)), if_neg z]
theorem jn_7 (N : Nat) (x y : Int64) (κ : Cz) : p_Rule_joined N (cOf 7) x y κ = some ((if x ≤ y then 1 else 0), κ) ∧ p12_sumOfTwo N (nI 7) x y = some ((if x ≤ y then 1 else 0)) := by
  have e : cOf 7 = (-29) := by decide
  constructor
  · unfold p_Rule_joined
    rw [e, if_neg (by decide), if_neg (by decide), if_neg (by decide), if_pos rfl]
    by_cases z : x ≤ y
    · rw [if_neg (fun q => Int64.not_lt.mpr z ((lg_cmp_gt _ _).mp q)), if_pos z]
    · rw [if_pos ((lg_cmp_gt _ _).mpr (Int64.not_le.mp z)), if_neg z]
  · unfold p12_sumOfTwo
    rw [if_neg (by decide), if_neg (by decide), if_neg (by decide), if_neg (by decide), if_neg (by decide), if_neg (by decide), if_pos (by decide)]
    by_cases z : x ≤ y
    · rw [if_neg (fun q => Int64.not_lt.mpr z ((lg_cmp_gt _ _).mp q)), if_pos z]
    · rw [if_pos ((lg_cmp_gt _ _).mpr (Int64.not_le.mp z)), if_neg z]
theorem jn_8 (N : Nat) (x y : Int64) (κ : Cz) : p_Rule_joined N (cOf 8) x y κ = some ((if x = y then 1 else 0), κ) ∧ p12_sumOfTwo N (nI 8) x y = some ((if x = y then 1 else 0)) := by
  have e : cOf 8 = (-30) := by decide
  constructor
  · unfold p_Rule_joined
    rw [e, if_neg (by decide), if_neg (by decide), if_pos rfl]
    by_cases z : x = y
    · rw [if_pos ((lg_cmp_eq _ _).mpr z), if_pos z]
    · rw [if_neg (fun q => z ((lg_cmp_eq _ _).mp q)), if_neg z]
  · unfold p12_sumOfTwo
    rw [if_neg (by decide), if_neg (by decide), if_neg (by decide), if_neg (by decide), if_neg (by decide), if_neg (by decide), if_neg (by decide), if_pos (by decide)]
    by_cases z : x = y
    · rw [if_pos ((lg_cmp_eq _ _).mpr z), if_pos z]
    · rw [if_neg (fun q => z ((lg_cmp_eq _ _).mp q)), if_neg z]
theorem jn_9 (N : Nat) (x y : Int64) (κ : Cz) : p_Rule_joined N (cOf 9) x y κ = some ((if y ≤ x then 1 else 0), κ) ∧ p12_sumOfTwo N (nI 9) x y = some ((if y ≤ x then 1 else 0)) := by
  have e : cOf 9 = (-31) := by decide
  constructor
  · unfold p_Rule_joined
    rw [e, if_neg (by decide), if_pos rfl]
    by_cases z : y ≤ x
    · rw [if_neg (fun q => Int64.not_lt.mpr z ((lg_cmp_lt _ _).mp q)), if_pos z]
    · rw [if_pos ((lg_cmp_lt _ _).mpr (Int64.not_le.mp z)), if_neg z]
  · unfold p12_sumOfTwo
    rw [if_neg (by decide), if_neg (by decide), if_neg (by decide), if_neg (by decide), if_neg (by decide), if_neg (by decide), if_neg (by decide), if_neg (by decide), if_pos (by decide)]
    by_cases z : y ≤ x
    · rw [if_neg (fun q => Int64.not_lt.mpr z ((lg_cmp_lt _ _).mp q)), if_pos z]
    · rw [if_pos ((lg_cmp_lt _ _).mpr (Int64.not_le.mp z)), if_neg z]
theorem jn_10 (N : Nat) (x y : Int64) (κ : Cz) : p_Rule_joined N (cOf 10) x y κ = some ((if y < x then 1 else 0), κ) ∧ p12_sumOfTwo N (nI 10) x y = some ((if y < x then 1 else 0)) := by
  have e : cOf 10 = (-32) := by decide
  constructor
  · unfold p_Rule_joined
    rw [e, if_pos (by decide)]
    by_cases z : y < x
    · rw [if_neg (fun q => Int64.not_le.mpr z ((lg_cmp_le _ _).mp q)), if_pos z]
    · rw [if_pos ((lg_cmp_le _ _).mpr (Int64.not_lt.mp z)), if_neg z]
  · unfold p12_sumOfTwo
    rw [if_neg (by decide), if_neg (by decide), if_neg (by decide), if_neg (by decide), if_neg (by decide), if_neg (by decide), if_neg (by decide), if_neg (by decide), if_neg (by decide), if_pos (by decide)]
    by_cases z : y < x
    · rw [if_neg (fun q => Int64.not_le.mpr z ((lg_cmp_le _ _).mp q)), if_pos z]
    · rw [if_pos ((lg_cmp_le _ _).mpr (Int64.not_lt.mp z)), if_neg z]
theorem jn_12 (N : Nat) (x y : Int64) (hx : x = 0 ∨ x = 1) (hy : y = 0 ∨ y = 1) (κ : Cz) : p_Rule_joined N (cOf 12) x y κ = some (x &&& y, κ) ∧ p12_sumOfTwo N (nI 12) x y = some (x &&& y) := by
  have e : cOf 12 = (-21) := by decide
  constructor
  · unfold p_Rule_joined
    rw [e, if_neg (by decide), if_neg (by decide), if_neg (by decide), if_neg (by decide), if_neg (by decide), if_neg (by decide), if_neg (by decide), if_neg (by decide), if_neg (by decide), if_neg (by decide), if_neg (by decide), if_pos rfl, ← (zero_one_and x y hx hy).1]
    by_cases z : x = 0
    · rw [if_pos ((lg_cmp_eq _ _).mpr z), if_pos z]
    · rw [if_neg (fun q => z ((lg_cmp_eq _ _).mp q)), if_neg z]
      by_cases z2 : y = 0
      · rw [if_pos ((lg_cmp_eq _ _).mpr z2), if_pos z2]
      · rw [if_neg (fun q => z2 ((lg_cmp_eq _ _).mp q)), if_neg z2]
  · unfold p12_sumOfTwo; rw [if_neg (by decide), if_neg (by decide), if_neg (by decide), if_neg (by decide), if_neg (by decide), if_neg (by decide), if_neg (by decide), if_neg (by decide), if_neg (by decide), if_neg (by decide), if_neg (by decide), if_pos (by decide)]
theorem jn_13 (N : Nat) (x y : Int64) (hx : x = 0 ∨ x = 1) (hy : y = 0 ∨ y = 1) (κ : Cz) : p_Rule_joined N (cOf 13) x y κ = some (x ||| y, κ) ∧ p12_sumOfTwo N (nI 13) x y = some (x ||| y) := by
  have e : cOf 13 = (-22) := by decide
  constructor
  · unfold p_Rule_joined
    rw [e, if_neg (by decide), if_neg (by decide), if_neg (by decide), if_neg (by decide), if_neg (by decide), if_neg (by decide), if_neg (by decide), if_neg (by decide), if_neg (by decide), if_neg (by decide), if_pos rfl, ← (zero_one_or x y hx hy).1]
    by_cases z : x = 0
    · rw [if_pos ((lg_cmp_eq _ _).mpr z), if_pos z]
      by_cases z2 : y = 0
      · rw [if_pos ((lg_cmp_eq _ _).mpr z2), if_pos z2]
      · rw [if_neg (fun q => z2 ((lg_cmp_eq _ _).mp q)), if_neg z2]
    · rw [if_neg (fun q => z ((lg_cmp_eq _ _).mp q)), if_neg z]
  · unfold p12_sumOfTwo; rw [if_neg (by decide), if_neg (by decide), if_neg (by decide), if_neg (by decide), if_neg (by decide), if_neg (by decide), if_neg (by decide), if_neg (by decide), if_neg (by decide), if_neg (by decide), if_neg (by decide), if_neg (by decide), if_pos (by decide)]
theorem jn_arith (N s : Nat) (h : s = 2 ∨ s = 3 ∨ s = 4 ∨ s = 5 ∨ s = 14) (x y : Int64) (κ : Cz) : ∃ v, p_Rule_joined N (cOf s) x y κ = some (v, κ) ∧ p12_sumOfTwo N (nI s) x y = some v := by
  rcases h with rfl | rfl | rfl | rfl | rfl
  · exact ⟨_, jn_2 N x y κ⟩
  · exact ⟨_, jn_3 N x y κ⟩
  · exact ⟨_, jn_4 N x y κ⟩
  · exact ⟨_, jn_5 N x y κ⟩
  · exact ⟨_, jn_14 N x y κ⟩
theorem ite01 (c : Prop) [Decidable c] : (if c then (1 : Int64) else 0) = 0 ∨ (if c then (1 : Int64) else 0) = 1 := by
  split
  · exact Or.inr rfl
  · exact Or.inl rfl
theorem jn_cmp (N s : Nat) (h : s = 6 ∨ s = 7 ∨ s = 8 ∨ s = 9 ∨ s = 10) (x y : Int64) (κ : Cz) : ∃ v, p_Rule_joined N (cOf s) x y κ = some (v, κ) ∧ p12_sumOfTwo N (nI s) x y = some v ∧ (v = 0 ∨ v = 1) := by
  rcases h with rfl | rfl | rfl | rfl | rfl
  · exact ⟨_, (jn_6 N x y κ).1, (jn_6 N x y κ).2, ite01 _⟩
  · exact ⟨_, (jn_7 N x y κ).1, (jn_7 N x y κ).2, ite01 _⟩
  · exact ⟨_, (jn_8 N x y κ).1, (jn_8 N x y κ).2, ite01 _⟩
  · exact ⟨_, (jn_9 N x y κ).1, (jn_9 N x y κ).2, ite01 _⟩
  · exact ⟨_, (jn_10 N x y κ).1, (jn_10 N x y κ).2, ite01 _⟩
theorem jn_bool (N s : Nat) (h : s = 12 ∨ s = 13) (x y : Int64) (hx : x = 0 ∨ x = 1) (hy : y = 0 ∨ y = 1) (κ : Cz) : ∃ v, p_Rule_joined N (cOf s) x y κ = some (v, κ) ∧ p12_sumOfTwo N (nI s) x y = some v ∧ (v = 0 ∨ v = 1) := by
  rcases h with rfl | rfl
  · exact ⟨_, (jn_12 N x y hx hy κ).1, (jn_12 N x y hx hy κ).2, (zero_one_and x y hx hy).2⟩
  · exact ⟨_, (jn_13 N x y hx hy κ).1, (jn_13 N x y hx hy κ).2, (zero_one_or x y hx hy).2⟩
