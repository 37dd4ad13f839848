/-! a rule is read: what joins values -/
def tmO (B : Nat → Nat) (t s : Nat) : Nat := if s < t then (if B s = 42 then 4 else if B s = 47 then 5 else if B s = 37 then 14 else 0) else 0
def smO (B : Nat → Nat) (t s : Nat) : Nat := if s < t then (if B s = 43 then 2 else if B s = 45 then 3 else 0) else 0
theorem sg_37 : sgB 37 = true := by decide
theorem sg_42 : sgB 42 = true := by decide
theorem sg_47 : sgB 47 = true := by decide
theorem c_codeTerm (N : Nat) {B : Nat → Nat} {t n k : Nat} {A : Nat → Nat} {κ : Cz} (hs : Sh κ A) (hB : ∀ i, i < t → B i < 256) (hk : Tks B t n k A κ) : p_RuleReader_codeOfTerm N (A 15) κ = some (cOf (tmO B t (plc B t k)), κ) := by
  have h5 : fi κ (A 2) 5 = tkK B t (plc B t k) := hk.2.2.2.2.2.2.1
  have h6 : fi κ (A 2) 6 = tkV B t (plc B t k) := hk.2.2.2.2.2.2.2.1
  have hS : ∀ v, v < 256 → sgB v = true → v ≠ 60 → v ≠ 62 → tkK B t (plc B t k) = 4 → (tkV B t (plc B t k) = nI v ↔ plc B t k < t ∧ B (plc B t k) = v) := fun v a b c d e => ⟨fun z => (tk_sign (hB _) a b c d).mp ⟨e, z⟩, fun z => ((tk_sign (hB _) a b c d).mpr z).2⟩
  unfold p_RuleReader_codeOfTerm
  simp -implicitDefEqProofs only [hs.rR, hs.tk, ck_1, bo_s, h5, h6, lt_s9]
  unfold tmO
  by_cases q : tkK B t (plc B t k) = 4
  · obtain ⟨q1, -⟩ := (tk_4 (hB _)).mp q
    rw [if_pos q, if_pos q1]
    have s37 := hS 37 (by decide) sg_37 (by decide) (by decide) q
    have s42 := hS 42 (by decide) sg_42 (by decide) (by decide) q
    have s47 := hS 47 (by decide) sg_47 (by decide) (by decide) q
    by_cases a : B (plc B t k) = 42
    · rw [if_pos a, if_neg (show ¬ tkV B t (plc B t k) = 37 from fun z => by have := (s37.mp z).2; omega), if_pos (show tkV B t (plc B t k) = 42 from s42.mpr ⟨q1, a⟩)]
      rfl
    · rw [if_neg a]
      by_cases b : B (plc B t k) = 47
      · rw [if_pos b, if_neg (show ¬ tkV B t (plc B t k) = 37 from fun z => by have := (s37.mp z).2; omega), if_neg (show ¬ tkV B t (plc B t k) = 42 from fun z => a (s42.mp z).2), if_pos (show tkV B t (plc B t k) = 47 from s47.mpr ⟨q1, b⟩)]
        rfl
      · rw [if_neg b]
        by_cases c : B (plc B t k) = 37
        · rw [if_pos c, if_pos (show tkV B t (plc B t k) = 37 from s37.mpr ⟨q1, c⟩)]
          rfl
        · rw [if_neg c, if_neg (show ¬ tkV B t (plc B t k) = 37 from fun z => c (s37.mp z).2), if_neg (show ¬ tkV B t (plc B t k) = 42 from fun z => a (s42.mp z).2), if_neg (show ¬ tkV B t (plc B t k) = 47 from fun z => b (s47.mp z).2)]
          rfl
  · rw [if_neg q]
    by_cases w : plc B t k < t
    · have nq : ∀ v, sgB v = true → ¬ B (plc B t k) = v := fun v a z => q ((tk_4 (hB _)).mpr ⟨w, by rw [z]; exact a⟩)
      rw [if_pos w, if_neg (nq 42 sg_42), if_neg (nq 47 sg_47), if_neg (nq 37 sg_37)]
      rfl
    · rw [if_neg w]
      rfl
theorem c_codeSum (N : Nat) {B : Nat → Nat} {t n k : Nat} {A : Nat → Nat} {κ : Cz} (hs : Sh κ A) (hB : ∀ i, i < t → B i < 256) (hk : Tks B t n k A κ) : p_RuleReader_codeOfSum N (A 15) κ = some (cOf (smO B t (plc B t k)), κ) := by
  have s43 : p_Tokens_isSign N (A 2) 43 κ = _ := c_isSign N hs hB hk (v := 43) (by decide) (by decide) (by decide) (by decide)
  have s45 : p_Tokens_isSign N (A 2) 45 κ = _ := c_isSign N hs hB hk (v := 45) (by decide) (by decide) (by decide) (by decide)
  unfold p_RuleReader_codeOfSum
  simp -implicitDefEqProofs only [hs.rR, hs.tk, ck_1, bo_s, s43, s45, bd_s, ite10]
  unfold smO
  by_cases w : plc B t k < t
  · rw [if_pos w]
    by_cases a : B (plc B t k) = 43
    · rw [if_pos ⟨w, a⟩, if_pos a]
      rfl
    · rw [if_neg (fun z => a z.2), if_neg a]
      by_cases b : B (plc B t k) = 45
      · rw [if_pos ⟨w, b⟩, if_pos b]
        rfl
      · rw [if_neg (fun z => b z.2), if_neg b]
        rfl
  · rw [if_neg w, if_neg (fun z => w z.1), if_neg (fun z => w z.1)]
    rfl
theorem m_term9 (N : Nat) (hN : 20000 ≤ N) {B : Nat → Nat} {t n k f : Nat} {A : Nat → Nat} {κ : Cz} {μ : Mz} (hJ : PJ B t n k A κ μ) : b12_term_9 N (f + 1) μ = if tmO B t (plc B t k) = 0 then some (1, si 2 (nI (plc B t k)) μ) else bd (p12_value N (si 2 (nI (plc B t k + 1)) μ)) (fun r8 μ8 => if r8 = 0 then some (0, μ8) else bo (p12_puts N (nI (tmO B t (plc B t k))) 0 μ8) (fun μ9 => b12_term_9 N f μ9)) := by
  have Js := hJ.see
  have se := m_seeJ N hN hJ
  have se2 := m_seeJ N hN Js
  rw [si_si] at se2
  have hle := plc_le B t k
  have hT := Js.2.2.1
  have ht := hT.1
  rw [b12_term_9, se, bd_s, se2, bd_s, se2, bd_s]
  by_cases w : plc B t k < t
  · have wt : ¬ plc B t k = t := by omega
    obtain ⟨b9, ga0⟩ := hT.2.2 _ w
    have X : ∀ o : Nat, b12_term_74 N (b12_term_9 N f) (nI o) (si 2 (nI (plc B t k)) μ) = bd (p12_value N (si 2 (nI (plc B t k + 1)) μ)) (fun r8 μ8 => if r8 = 0 then some (0, μ8) else bo (p12_puts N (nI o) 0 μ8) (fun μ9 => b12_term_9 N f μ9)) := by
      intro o
      unfold b12_term_74
      rw [lt_s9, gi_si, nI_1, si_si]
    have P : b12_term_36 N (b12_term_9 N f) (si 2 (nI (plc B t k)) μ) = if B (plc B t k) = 42 then b12_term_74 N (b12_term_9 N f) (nI 4) (si 2 (nI (plc B t k)) μ) else if B (plc B t k) = 47 then b12_term_74 N (b12_term_9 N f) (nI 5) (si 2 (nI (plc B t k)) μ) else b12_term_74 N (b12_term_9 N f) (nI 14) (si 2 (nI (plc B t k)) μ) := by
      unfold b12_term_36
      rw [lt_s9, gi_si, ck_t (inb_nI (show plc B t k < 400 by omega) (by decide)), clN (by omega), ga0, lt_s9, ck_t (inb_nI (show plc B t k < 400 by omega) (by decide)), clN (by omega), ga0]
      by_cases a : B (plc B t k) = 42
      · rw [if_pos (show sx (B (plc B t k)) = 42 from (sx_eq b9 (k := 42) (by decide)).mpr a), if_pos a]
        rfl
      · rw [if_neg (show ¬ sx (B (plc B t k)) = 42 from fun z => a ((sx_eq b9 (k := 42) (by decide)).mp z)), if_neg a]
        by_cases b : B (plc B t k) = 47
        · rw [if_pos (show sx (B (plc B t k)) = 47 from (sx_eq b9 (k := 47) (by decide)).mpr b), if_pos b]
          rfl
        · rw [if_neg (show ¬ sx (B (plc B t k)) = 47 from fun z => b ((sx_eq b9 (k := 47) (by decide)).mp z)), if_neg b]
          rfl
    rw [P, X, X, X, if_neg wt]
    unfold tmO
    rw [if_pos w]
    by_cases a : B (plc B t k) = 42
    · rw [if_pos a, if_pos a, if_pos (show nI (B (plc B t k)) = 42 by rw [a]; rfl), if_neg (by decide)]
    · rw [if_neg a, if_neg a, if_neg (show ¬ nI (B (plc B t k)) = 42 from fun z => a ((nI_eq (by omega) (by omega)).mp (show nI (B (plc B t k)) = nI 42 from z)))]
      by_cases b : B (plc B t k) = 47
      · rw [if_pos b, if_pos b, if_pos (show nI (B (plc B t k)) = 47 by rw [b]; rfl), if_neg (by decide)]
      · rw [if_neg b, if_neg b, if_neg (show ¬ nI (B (plc B t k)) = 47 from fun z => b ((nI_eq (by omega) (by omega)).mp (show nI (B (plc B t k)) = nI 47 from z)))]
        by_cases c : B (plc B t k) = 37
        · rw [if_pos c, if_pos (show nI (B (plc B t k)) = 37 by rw [c]; rfl), if_neg (by decide)]
        · rw [if_neg c, if_neg (show ¬ nI (B (plc B t k)) = 37 from fun z => c ((nI_eq (by omega) (by omega)).mp (show nI (B (plc B t k)) = nI 37 from z))), if_pos rfl]
  · have wt : plc B t k = t := by omega
    unfold tmO
    rw [if_neg w, if_pos rfl, if_pos wt, if_neg (by decide), if_neg (by decide), if_neg (by decide)]
theorem m_sum9 (N : Nat) (hN : 20000 ≤ N) {B : Nat → Nat} {t n k f : Nat} {A : Nat → Nat} {κ : Cz} {μ : Mz} (hJ : PJ B t n k A κ μ) : b12_sum_9 N (f + 1) μ = if smO B t (plc B t k) = 0 then some (1, si 2 (nI (plc B t k)) μ) else bd (p12_term N (si 2 (nI (plc B t k + 1)) μ)) (fun r6 μ6 => if r6 = 0 then some (0, μ6) else bo (p12_puts N (nI (smO B t (plc B t k))) 0 μ6) (fun μ7 => b12_sum_9 N f μ7)) := by
  have Js := hJ.see
  have se := m_seeJ N hN hJ
  have se2 := m_seeJ N hN Js
  rw [si_si] at se2
  have hle := plc_le B t k
  have hT := Js.2.2.1
  have ht := hT.1
  rw [b12_sum_9, se, bd_s, se2, bd_s]
  by_cases w : plc B t k < t
  · have wt : ¬ plc B t k = t := by omega
    obtain ⟨b9, ga0⟩ := hT.2.2 _ w
    have X : ∀ o : Nat, b12_sum_46 N (b12_sum_9 N f) (nI o) (si 2 (nI (plc B t k)) μ) = bd (p12_term N (si 2 (nI (plc B t k + 1)) μ)) (fun r6 μ6 => if r6 = 0 then some (0, μ6) else bo (p12_puts N (nI o) 0 μ6) (fun μ7 => b12_sum_9 N f μ7)) := by
      intro o
      unfold b12_sum_46
      rw [lt_s9, gi_si, nI_1, si_si]
    have P : b12_sum_27 N (b12_sum_9 N f) (si 2 (nI (plc B t k)) μ) = if B (plc B t k) = 43 then b12_sum_46 N (b12_sum_9 N f) (nI 2) (si 2 (nI (plc B t k)) μ) else b12_sum_46 N (b12_sum_9 N f) (nI 3) (si 2 (nI (plc B t k)) μ) := by
      unfold b12_sum_27
      rw [lt_s9, gi_si, ck_t (inb_nI (show plc B t k < 400 by omega) (by decide)), clN (by omega), ga0]
      by_cases a : B (plc B t k) = 43
      · rw [if_pos (show sx (B (plc B t k)) = 43 from (sx_eq b9 (k := 43) (by decide)).mpr a), if_pos a]
        rfl
      · rw [if_neg (show ¬ sx (B (plc B t k)) = 43 from fun z => a ((sx_eq b9 (k := 43) (by decide)).mp z)), if_neg a]
        rfl
    rw [P, X, X, if_neg wt]
    unfold smO
    rw [if_pos w]
    by_cases a : B (plc B t k) = 43
    · rw [if_pos a, if_pos a, if_pos (show nI (B (plc B t k)) = 43 by rw [a]; rfl), if_neg (by decide)]
    · rw [if_neg a, if_neg a, if_neg (show ¬ nI (B (plc B t k)) = 43 from fun z => a ((nI_eq (by omega) (by omega)).mp (show nI (B (plc B t k)) = nI 43 from z)))]
      by_cases b : B (plc B t k) = 45
      · rw [if_pos b, if_pos (show nI (B (plc B t k)) = 45 by rw [b]; rfl), if_neg (by decide)]
      · rw [if_neg b, if_neg (show ¬ nI (B (plc B t k)) = 45 from fun z => b ((nI_eq (by omega) (by omega)).mp (show nI (B (plc B t k)) = nI 45 from z))), if_pos rfl]
  · have wt : plc B t k = t := by omega
    unfold smO
    rw [if_neg w, if_pos rfl, if_pos wt, if_neg (by decide), if_neg (by decide)]
/-! behind a fault -/
theorem FX.chg {F : Nat} {A : Nat → Nat} {κ κ1 : Cz} {L : Nat → Prop} (h : FX F A κ) (g : Chg A L κ κ1) (n2 : ¬ L 2) (n15 : ¬ L 15) : FX F A κ1 := ⟨h.1.chg g n2, by rw [g.fi n15]; exact h.2⟩
theorem f_add (N : Nat) {F : Nat} {A : Nat → Nat} {κ : Cz} (hs : Sh κ A) (h : FX F A κ) (c : Int32) : ∃ κ1, p_RuleReader_add N (A 15) c κ = some κ1 ∧ FX F A κ1 ∧ Chg A (fun r => r = 15 ∨ r = 16) κ κ1 := by
  have hA := hs.inj
  obtain ⟨hf, ⟨z, hz, h4⟩, c0, hc0, h5⟩ := h
  unfold p_RuleReader_add
  simp -implicitDefEqProofs only [hs.rR, ck_1, bo_s, h4, lt_s9, isK_ai, fi_ai, nI_1]
  by_cases q : z = 400
  · subst q
    rw [if_pos (nI_le (Nat.le_refl _) (by omega))]
    exact ⟨κ, rfl, ⟨hf, ⟨400, hz, h4⟩, c0, hc0, h5⟩, Chg.refl _ _ _⟩
  · have hl : z < 400 := by omega
    rw [if_neg (nI_ge hl (by omega)), ck_t (inb_nI hl (by decide))]
    have g : Chg A (fun r => r = 15 ∨ r = 16) κ (sfi (A 15) 4 (nI (z + 1)) (sai (A 16) (upd (ai κ (A 16)) (nI z).toNatClampNeg c) κ)) := (Chg.sai (L := fun r => r = 15 ∨ r = 16) hA κ (r := 16) (Or.inr rfl) _).trans (Chg.sfi (L := fun r => r = 15 ∨ r = 16) hA _ (r := 15) (Or.inl rfl) _ _)
    exact ⟨_, rfl, ⟨hf.chg g (by omega), ⟨z + 1, by omega, by rw [fi_fi, if_pos ⟨rfl, rfl⟩]⟩, c0, hc0, by rw [fi_fi, if_neg (by simp), fi_ai]; exact h5⟩, g⟩
theorem f_codeTerm (N : Nat) {F : Nat} {A : Nat → Nat} {κ : Cz} (hs : Sh κ A) (h : Flt F A κ) : p_RuleReader_codeOfTerm N (A 15) κ = some (0, κ) := by
  unfold p_RuleReader_codeOfTerm
  simp -implicitDefEqProofs only [hs.rR, hs.tk, ck_1, bo_s, h.2.2.2]
  rw [if_neg (by decide)]
theorem f_codeComparison (N : Nat) {F : Nat} {A : Nat → Nat} {κ : Cz} (hs : Sh κ A) (h : Flt F A κ) : p_RuleReader_codeOfComparison N (A 15) κ = some (0, κ) := by
  unfold p_RuleReader_codeOfComparison
  simp -implicitDefEqProofs only [hs.rR, hs.tk, ck_1, bo_s, h.2.2.2]
  rw [if_neg (by decide)]
theorem f_codeSum (N : Nat) {F : Nat} {A : Nat → Nat} {κ : Cz} (hs : Sh κ A) (h : Flt F A κ) : p_RuleReader_codeOfSum N (A 15) κ = some (0, κ) := by
  unfold p_RuleReader_codeOfSum
  simp -implicitDefEqProofs only [hs.rR, hs.tk, ck_1, bo_s, f_isSign N hs h, bd_s, if_true]
theorem f_sum26 (N : Nat) {F : Nat} {A : Nat → Nat} {κ : Cz} (hs : Sh κ A) (h : FX F A κ) (k6 : Nat → Int32 → Int32 → Int32 → Cz → Option (Cz)) (x1 x3 : Int32) : ∃ κ1, b_RuleReader_readSum_26 N k6 (A 15) x1 x3 κ = some κ1 ∧ FX F A κ1 ∧ Chg A (fun r => r = 15 ∨ r = 16) κ κ1 := by
  have X : ∀ κ', Sh κ' A → FX F A κ' → b_RuleReader_readSum_44 N k6 (A 15) 0 x3 κ' = some κ' := by
    intro κ' s' f'
    unfold b_RuleReader_readSum_44
    simp -implicitDefEqProofs only [s'.rR, ck_1, f_codeSum N s' f'.1, bd_s, if_true]
  unfold b_RuleReader_readSum_26
  simp -implicitDefEqProofs only [hs.rR, ck_1, f_codeTerm N hs h.1, bd_s, if_true]
  by_cases q : x1 = 0
  · rw [if_pos q, X κ hs h]
    exact ⟨κ, rfl, h, Chg.refl _ _ _⟩
  · obtain ⟨κ1, e1, f1, c1⟩ := f_add N hs h x1
    rw [if_neg q, e1, bo_s, X κ1 (hs.chg c1) f1]
    exact ⟨κ1, rfl, f1, c1⟩
