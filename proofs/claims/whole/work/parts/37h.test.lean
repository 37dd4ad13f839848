/-! a rule is read: a test's facts, one behind the other -/
def opA (a : Nat) : List Nat := if a = 0 then [] else [12]
def opO (o : Nat) : List Nat := if o = 0 then [] else [13]
def tz : Nat → List Bool → List Bool
  | 0, st => st
  | n + 1, st => true :: tz n st
theorem tz_c : ∀ (n : Nat) (st : List Bool), tz n (true :: st) = true :: tz n st
  | 0, _ => rfl
  | n + 1, st => by rw [tz, tz, tz_c n st]
theorem tyBo {x : Nat} (h : x = 12 ∨ x = 13) (st : List Bool) : tyStep x (true :: true :: st) = some (true :: st) := by
  rcases h with rfl | rfl <;> rfl
theorem tyA (a m : Nat) (st : List Bool) : tyL (opA a) (tz ((opA a).length + m + 1) st) = some (tz (m + 1) st) := by
  unfold opA
  by_cases z : a = 0
  · rw [if_pos z, show ([] : List Nat).length + m + 1 = m + 1 by simp]
    rfl
  · rw [if_neg z, show ([12] : List Nat).length + m + 1 = m + 1 + 1 by simp only [List.length_cons, List.length_nil]; omega]
    exact tyL_1 (tyBo (Or.inl rfl) _)
theorem tyO (o m : Nat) (st : List Bool) : tyL (opO o) (tz ((opO o).length + m + 1) st) = some (tz (m + 1) st) := by
  unfold opO
  by_cases z : o = 0
  · rw [if_pos z, show ([] : List Nat).length + m + 1 = m + 1 by simp]
    rfl
  · rw [if_neg z, show ([13] : List Nat).length + m + 1 = m + 1 + 1 by simp only [List.length_cons, List.length_nil]; omega]
    exact tyL_1 (tyBo (Or.inr rfl) _)
/-- a fact that is read, of depth D -/
def FE (N : Nat) (B : Nat → Nat) (t n R : Nat) (G : Nat → Int32) (A : Nat → Nat) (k m f : Nat) (cs st : List Nat) (κ1 : Cz) (μ : Mz) : Prop := (∃ (μ1 : Mz) (k1 : Nat) (e : List Nat) (v1 h1 g1 f1 : Nat), FCT N m f μ = CLG N h1 g1 f1 μ1 ∧ TJ B t n k1 R G (cs ++ e) v1 st A κ1 μ1 ∧ k < k1 ∧ st.length < h1 ∧ n < k1 + g1 ∧ n < k1 + f1 ∧ (∀ s, tyL e s = some (true :: s)) ∧ MF IT JT μ μ1) ∨ ∃ μ1, FCT N m f μ = some (0, μ1) ∧ RX A κ1 μ1 ∧ MF IT JT μ μ1
def PF (N : Nat) (B : Nat → Nat) (t n R : Nat) (G : Nat → Int32) (A : Nat → Nat) (D : Nat) : Prop := ∀ (k v m f : Nat) (cs st : List Nat) (κ : Cz) (μ : Mz), TJ B t n k R G cs v st A κ μ → 0 < k → 2 * (10 - dpL st) + 1 ≤ D → n + 1 < k + m → n < k + f → ∃ κ1, (r_RuleReader_readTest_RuleReader_readFact N D).2 (A 15) (nI (dpL st)) κ = some κ1 ∧ Chg A LSm κ κ1 ∧ FE N B t n R G A k m f cs st κ1 μ
/-- how a test ends -/
def TE (N : Nat) (B : Nat → Nat) (t n R : Nat) (G : Nat → Int32) (A : Nat → Nat) (k m f a o : Nat) (cs st : List Nat) (κ1 : Cz) (μ : Mz) : Prop := (∃ (κ0 : Cz) (μ1 : Mz) (k1 : Nat) (e : List Nat) (v1 h1 g1 f1 a1 o1 : Nat), FCT N m f μ = CLG N h1 g1 f1 μ1 ∧ TJ B t n k1 R G (cs ++ e) v1 ((opA a1 ++ opO o1) ++ st) A κ0 μ1 ∧ AD N A (opA a1 ++ opO o1) κ0 κ1 ∧ k < k1 ∧ ((opA a1 ++ opO o1) ++ st).length < h1 ∧ n < k1 + g1 ∧ n < k1 + f1 ∧ ¬ isW B t (plc B t k1) (CD 18) = true ∧ ¬ isW B t (plc B t k1) (CD 17) = true ∧ (∀ s, tyL e (tz (opA a ++ opO o).length s) = some (tz ((opA a1 ++ opO o1).length + 1) s)) ∧ MF IT JT μ μ1) ∨ ∃ μ1, FCT N m f μ = some (0, μ1) ∧ RX A κ1 μ1 ∧ MF IT JT μ μ1
theorem opA_in {a x : Nat} (h : x ∈ opA a) : x = 12 := by
  unfold opA at h
  split at h
  · exact absurd h (by simp)
  · simpa using h
theorem opO_in {o x : Nat} (h : x ∈ opO o) : x = 13 := by
  unfold opO at h
  split at h
  · exact absurd h (by simp)
  · simpa using h
theorem dpL_app : ∀ (a b : List Nat), dpL (a ++ b) = dpL a + dpL b
  | [], b => by rw [List.nil_append, dpL, Nat.zero_add]
  | s :: l, b => by rw [List.cons_append, dpL, dpL, dpL_app l b, Nat.add_assoc]
theorem dpL_ops (a o : Nat) (st : List Nat) : dpL ((opA a ++ opO o) ++ st) = dpL st := by
  rw [dpL_app, dpL_app]
  have h1 : dpL (opA a) = 0 := by unfold opA; split <;> rfl
  have h2 : dpL (opO o) = 0 := by unfold opO; split <;> rfl
  omega
theorem head_app {em st : List Nat} {least : Nat} (he : ∀ x, x ∈ em → stg x < least) (hst : ∀ s st', st = s :: st' → stg s < least) : ∀ x st', em ++ st = x :: st' → stg x < least := by
  intro x st' h
  cases em with
  | nil => exact hst x st' h
  | cons y em =>
    have : y = x := (List.cons.inj h).1
    subst this
    exact he y (List.mem_cons_self ..)
/-- a flag's code is added by the class -/
theorem c_flagA (N : Nat) {A : Nat → Nat} {κ κ2 : Cz} {a : Nat} (ha : a ≤ 1) (hs : Sh κ A) (h : AD N A (opA a) κ κ2) (X : Cz → Option Cz) : (if nI a = 0 then X κ else ck (isK κ (A 15) 7) (bo (p_RuleReader_add N (A 15) (-21) κ) (fun κ23 => X κ23))) = X κ2 := by
  have isk : isK κ (A 15) 7 = true := hs.rR.1
  obtain rfl | rfl : a = 0 ∨ a = 1 := by omega
  · rw [if_pos (show nI 0 = 0 from rfl)]
    cases h
    rfl
  · obtain ⟨κ3, e3, h3⟩ := h
    cases h3
    rw [if_neg (show ¬ nI 1 = 0 by decide), isk, ck_1, show p_RuleReader_add N (A 15) (-21) κ = some κ2 from e3, bo_s]
theorem c_flagO (N : Nat) {A : Nat → Nat} {κ κ2 : Cz} {o : Nat} (ho : o ≤ 1) (hs : Sh κ A) (h : AD N A (opO o) κ κ2) (X : Cz → Option Cz) : (if nI o = 0 then X κ else ck (isK κ (A 15) 7) (bo (p_RuleReader_add N (A 15) (-22) κ) (fun κ23 => X κ23))) = X κ2 := by
  have isk : isK κ (A 15) 7 = true := hs.rR.1
  obtain rfl | rfl : o = 0 ∨ o = 1 := by omega
  · rw [if_pos (show nI 0 = 0 from rfl)]
    cases h
    rfl
  · obtain ⟨κ3, e3, h3⟩ := h
    cases h3
    rw [if_neg (show ¬ nI 1 = 0 by decide), isk, ck_1, show p_RuleReader_add N (A 15) (-22) κ = some κ2 from e3, bo_s]
theorem f_ad (N : Nat) {F : Nat} {A : Nat → Nat} : ∀ (l : List Nat) {κ : Cz}, Sh κ A → FX F A κ → ∃ κ1, AD N A l κ κ1 ∧ FX F A κ1 ∧ Sh κ1 A
  | [], κ, hs, h => ⟨κ, rfl, h, hs⟩
  | s :: l, κ, hs, h => by
    obtain ⟨κ1, e1, f1, c1⟩ := f_add N hs h (cOf s)
    obtain ⟨κ2, e2, f2, s2⟩ := f_ad N l (hs.chg c1) f1
    exact ⟨κ2, ⟨κ1, e1, e2⟩, f2, s2⟩
theorem test_run (N : Nat) (hN : 20000 ≤ N) {B : Nat → Nat} {t n R : Nat} {G : Nat → Int32} {A : Nat → Nat} {D : Nat} (hF : PF N B t n R G A D) {st : List Nat} (hst : ∀ s st', st = s :: st' → stg s < 1) (hD : 2 * (10 - dpL st) + 1 ≤ D) (T : Nat → Int32 → Cz → Option Cz) : ∀ (d k v a o x4 m f fc : Nat) (cs : List Nat) (κ : Cz) (μ : Mz), n < k + d → d ≤ 1000 → d ≤ fc → a ≤ 1 → o ≤ 1 → x4 < k → n + 1 < k + m → n < k + f → TJ B t n k R G cs v ((opA a ++ opO o) ++ st) A κ μ → ∃ κ1, b_RuleReader_readTest_7 N T (r_RuleReader_readTest_RuleReader_readFact N D).2 fc (A 15) (nI (dpL st)) (nI o) (nI a) (nI x4) κ = some κ1 ∧ Chg A LSm κ κ1 ∧ TE N B t n R G A k m f a o cs st κ1 μ := by
  have hA3 : ∀ a o x, x ∈ opA a ++ opO o → stg x < 3 := by
    intro a o x hx
    rcases List.mem_append.mp hx with z | z
    · rw [opA_in z]; decide
    · rw [opO_in z]; decide
  have hst3 : ∀ s st', st = s :: st' → stg s < 3 := fun s st' h => by have := hst s st' h; omega
  intro d
  induction d with
  | zero =>
    intro k v a o x4 m f fc cs κ μ hd _ _ _ _ _ _ _ hT
    have := hT.len
    omega
  | succ d ih =>
    intro k v a o x4 m f fc cs κ μ hd hd1 hfc ha ho hx4 hm hf hT
    obtain ⟨fc, rfl⟩ : ∃ z, fc = z + 1 := ⟨fc - 1, by omega⟩
    have hl := hT.len
    have hs := hT.1.1.1
    have isk : isK κ (A 15) 7 = true := hs.rR.1
    obtain ⟨κ1, e1, c1, o1⟩ := hF k v m f cs _ κ μ hT (by omega) (by rw [dpL_ops]; exact hD) hm hf
    rw [dpL_ops] at e1
    have hs1 := hs.chg c1
    rw [b_RuleReader_readTest_7, if_neg (show ¬ (400 : Int32) ≤ nI x4 from nI_ge (b := 400) (by omega) (by omega)), isk, ck_1, e1, bo_s]
    rcases o1 with ⟨μ1, k1, e, v1, h1, g1, f1, E1, T1, hk1, hh1, hg1, hf1, ty1, M1⟩ | ⟨μ1, E1, ⟨F, fx, g3⟩, M1⟩
    · have hl1 := T1.len
      obtain ⟨g1, rfl⟩ : ∃ z, g1 = z + 1 := ⟨g1 - 1, by omega⟩
      obtain ⟨f1, rfl⟩ : ∃ z, f1 = z + 1 := ⟨f1 - 1, by omega⟩
      have Tk1 := T1.1.1.2.1
      have hlo : ((opA a ++ opO o) ++ st).length = (opA a ++ opO o).length + st.length := List.length_append
      -- the codes that wait
      obtain ⟨κ9, -, a9, -, -, -, c9, -⟩ := lay_all N (least := 1) (by omega) (by omega) hst (by omega) (opA a ++ opO o) (cs ++ e) κ1 μ1 hs1 T1.1.2.1 T1.2 (by omega) (by
        intro x hx
        rcases List.mem_append.mp hx with z | z
        · rw [opA_in z]; decide
        · rw [opO_in z]; decide)
      obtain ⟨κ2, aA, aO⟩ := a9.split
      have cA := aA.chg hs1
      have hs2 := hs1.chg cA
      have Tk2 := Tk1.chg cA (fun r z1 z2 z3 => by omega)
      have cO := aO.chg hs2
      have hs9 := hs2.chg cO
      have Tk9 := Tk2.chg cO (fun r z1 z2 z3 => by omega)
      rw [c_flagA N ha hs1 aA]
      unfold b_RuleReader_readTest_30
      have i18 : p_Tokens_isWord N (A 2) 18 κ2 = _ := c_isWord N hs2 Tk2 (w := 18) (by decide)
      simp -implicitDefEqProofs only [hs2.rR, hs2.tk, ck_1, bo_s, i18, bd_s]
      have tyF : ∀ s, tyL e (tz (opA a ++ opO o).length s) = some (tz ((opA a).length + (opO o).length + 1) s) := fun s => by
        rw [ty1, List.length_append]
        rfl
      by_cases w18 : isW B t (plc B t k1) (CD 18) = true
      · rw [if_pos w18, if_neg ne10]
        have T1' : TJ B t n k1 R G (cs ++ e) v1 (opA a ++ (opO o ++ st)) A κ1 μ1 := by rw [← List.append_assoc]; exact T1
        obtain ⟨κ2', κ3, μ3, a2, e3, E3, T3, c3, M3⟩ := join_step N hN (h := h1) (w := 18) (s := 12) (least := 2) T1' w18 (Or.inl ⟨rfl, rfl, rfl⟩) (fun x hx => by rw [opA_in hx]; decide) (head_app (least := 2) (fun x hx => by rw [opO_in hx]; decide) (fun s st' h => by have := hst s st' h; omega)) (head_app (least := 3) (fun x hx => hA3 a 0 x (List.mem_append.mpr (Or.inl hx))) (head_app (least := 3) (fun x hx => by rw [opO_in hx]; decide) hst3)) (by omega) g1 f1
        have : κ2' = κ2 := a2.det aA
        subst this
        rw [e3, bo_s, lt_s9, nI_1]
        have T3' : TJ B t n (k1 + 1) R G (cs ++ e ++ opA a) v1 ((opA 1 ++ opO o) ++ st) A κ3 μ3 := T3
        obtain ⟨κ4, e4, c4, o4⟩ := ih (k1 + 1) v1 1 o (x4 + 1) N f1 fc (cs ++ e ++ opA a) κ3 μ3 (by omega) (by omega) (by omega) (by omega) ho (by omega) (by omega) (by omega) T3'
        refine ⟨κ4, e4, (c1.trans c3).trans c4, ?_⟩
        rcases o4 with ⟨κ0, μ4, k4, l4, v4, h4, g4, f4, a4, q4, E4, T4, A4, hk4, hh4, hg4, hf4, n4, m4, ty4, M4⟩ | ⟨μ4, E4, X4, M4⟩
        · refine Or.inl ⟨κ0, μ4, k4, e ++ (opA a ++ l4), v4, h4, g4, f4, a4, q4, by rw [E1, E3, E4], ?_, A4, by omega, hh4, hg4, hf4, n4, m4, fun s => ?_, (M1.trans M3).trans M4⟩
          · rw [← List.append_assoc, ← List.append_assoc]; exact T4
          · rw [tyL_app _ _ _ _ (tyF s), tyL_app _ _ _ _ (tyA a _ s)]
            have := ty4 s
            rw [List.length_append, show (opA 1).length = 1 from rfl, Nat.add_comm 1] at this
            exact this
        · exact Or.inr ⟨μ4, by rw [E1, E3, E4], X4, (M1.trans M3).trans M4⟩
      · rw [if_neg w18, if_pos rfl]
        have eO := c_flagO N ho hs2 aO (fun κ' => b_RuleReader_readTest_54 N T (r_RuleReader_readTest_RuleReader_readFact N D).2 (b_RuleReader_readTest_7 N T (r_RuleReader_readTest_RuleReader_readFact N D).2 fc) (A 15) (nI (dpL st)) 0 (nI x4) κ')
        have isk2 : isK κ2 (A 15) 7 = true := hs2.rR.1
        rw [isk2, ck_1] at eO
        rw [eO]
        unfold b_RuleReader_readTest_54
        have i17 : p_Tokens_isWord N (A 2) 17 κ9 = _ := c_isWord N hs9 Tk9 (w := 17) (by decide)
        simp -implicitDefEqProofs only [hs9.rR, hs9.tk, ck_1, bo_s, i17, bd_s]
        by_cases w17 : isW B t (plc B t k1) (CD 17) = true
        · rw [if_pos w17, if_neg ne10]
          obtain ⟨κ2', κ3, μ3, a2, e3, E3, T3, c3, M3⟩ := join_step N hN (h := h1) (w := 17) (s := 13) (least := 1) T1 w17 (Or.inr ⟨rfl, rfl, rfl⟩) (by
            intro x hx
            rcases List.mem_append.mp hx with z | z
            · rw [opA_in z]; decide
            · rw [opO_in z]; decide) hst (head_app (fun x hx => hA3 a o x hx) hst3) (by omega) g1 f1
          have : κ2' = κ9 := a2.det a9
          subst this
          rw [e3, bo_s, lt_s9, nI_1]
          have T3' : TJ B t n (k1 + 1) R G (cs ++ e ++ (opA a ++ opO o)) v1 ((opA 0 ++ opO 1) ++ st) A κ3 μ3 := T3
          obtain ⟨κ4, e4, c4, o4⟩ := ih (k1 + 1) v1 0 1 (x4 + 1) N f1 fc (cs ++ e ++ (opA a ++ opO o)) κ3 μ3 (by omega) (by omega) (by omega) (by omega) (by omega) (by omega) (by omega) (by omega) T3'
          refine ⟨κ4, e4, (c1.trans c3).trans c4, ?_⟩
          rcases o4 with ⟨κ0, μ4, k4, l4, v4, h4, g4, f4, a4, q4, E4, T4, A4, hk4, hh4, hg4, hf4, n4, m4, ty4, M4⟩ | ⟨μ4, E4, X4, M4⟩
          · refine Or.inl ⟨κ0, μ4, k4, e ++ ((opA a ++ opO o) ++ l4), v4, h4, g4, f4, a4, q4, by rw [E1, E3, E4], ?_, A4, by omega, hh4, hg4, hf4, n4, m4, fun s => ?_, (M1.trans M3).trans M4⟩
            · rw [← List.append_assoc, ← List.append_assoc]; exact T4
            · rw [tyL_app _ _ _ _ (tyF s), List.append_assoc, tyL_app _ _ _ _ (tyA a _ s)]
              have to := tyO o 0 s
              rw [Nat.add_zero] at to
              rw [tyL_app _ _ _ _ to]
              exact ty4 s
          · exact Or.inr ⟨μ4, by rw [E1, E3, E4], X4, (M1.trans M3).trans M4⟩
        · rw [if_neg w17, if_pos rfl]
          refine ⟨κ9, rfl, (c1.trans (l1516_m cA)).trans (l1516_m cO), Or.inl ⟨κ1, μ1, k1, e, v1, h1, g1 + 1, f1 + 1, a, o, E1, T1, a9, hk1, hh1, hg1, hf1, w18, w17, fun s => ?_, M1⟩⟩
          rw [tyF s, List.length_append]
    · obtain ⟨κ2, aA, fA, s2⟩ := f_ad N (opA a) hs1 fx
      obtain ⟨κ3, aO, fO, s3⟩ := f_ad N (opO o) s2 fA
      have cA := aA.chg hs1
      have cO := aO.chg s2
      rw [c_flagA N ha hs1 aA]
      unfold b_RuleReader_readTest_30
      simp -implicitDefEqProofs only [s2.rR, s2.tk, ck_1, bo_s, f_isWord N s2 fA.1, bd_s, if_true]
      have eO := c_flagO N ho s2 aO (fun κ' => b_RuleReader_readTest_54 N T (r_RuleReader_readTest_RuleReader_readFact N D).2 (b_RuleReader_readTest_7 N T (r_RuleReader_readTest_RuleReader_readFact N D).2 fc) (A 15) (nI (dpL st)) 0 (nI x4) κ')
      have isk2 : isK κ2 (A 15) 7 = true := s2.rR.1
      rw [isk2, ck_1] at eO
      rw [eO]
      unfold b_RuleReader_readTest_54
      simp -implicitDefEqProofs only [s3.rR, s3.tk, ck_1, bo_s, f_isWord N s3 fO.1, bd_s, if_true]
      exact ⟨κ3, rfl, (c1.trans (l1516_m cA)).trans (l1516_m cO), Or.inr ⟨μ1, E1, ⟨F, fO, g3⟩, M1⟩⟩
