/-! a rule is read: a comparison -/
def cmO (B : Nat → Nat) (t s : Nat) : Nat := if s < t then (if B s = 60 then (if orS B t s = true then 7 else 6) else if B s = 61 then 8 else if B s = 62 then (if orS B t s = true then 9 else 10) else 0) else 0
theorem sg_60 : sgB 60 = true := by decide
theorem sg_61 : sgB 61 = true := by decide
theorem sg_62 : sgB 62 = true := by decide
theorem cmO_ne {B : Nat → Nat} {t s : Nat} (h : cmO B t s ≠ 0) : s < t ∧ (B s = 60 ∨ B s = 61 ∨ B s = 62) ∧ 6 ≤ cmO B t s ∧ cmO B t s ≤ 10 := by
  unfold cmO at h ⊢
  by_cases w : s < t
  · rw [if_pos w] at h ⊢
    by_cases a : B s = 60
    · rw [if_pos a]
      refine ⟨w, Or.inl a, ?_⟩
      split <;> omega
    · rw [if_neg a] at h ⊢
      by_cases b : B s = 61
      · rw [if_pos b]; exact ⟨w, Or.inr (Or.inl b), by omega, by omega⟩
      · rw [if_neg b] at h ⊢
        by_cases c : B s = 62
        · rw [if_pos c]
          refine ⟨w, Or.inr (Or.inr c), ?_⟩
          split <;> omega
        · rw [if_neg c] at h; exact absurd rfl h
  · rw [if_neg w] at h; exact absurd rfl h
theorem c_codeCmp (N : Nat) {B : Nat → Nat} {t n k : Nat} {A : Nat → Nat} {κ : Cz} (hs : Sh κ A) (hB : ∀ i, i < t → B i < 256) (hk : Tks B t n k A κ) : p_RuleReader_codeOfComparison N (A 15) κ = some (cOf (cmO B t (plc B t k)), κ) := by
  have h5 : fi κ (A 2) 5 = tkK B t (plc B t k) := hk.2.2.2.2.2.2.1
  have h6 : fi κ (A 2) 6 = tkV B t (plc B t k) := hk.2.2.2.2.2.2.2.1
  unfold p_RuleReader_codeOfComparison
  simp -implicitDefEqProofs only [hs.rR, hs.tk, ck_1, bo_s, h5, h6, lt_s9]
  unfold cmO
  by_cases q : tkK B t (plc B t k) = 4
  · obtain ⟨q1, q2⟩ := (tk_4 (hB _)).mp q
    have b9 := hB _ q1
    rw [if_pos q, if_pos q1, tk_4v q1 b9 q2]
    have E : ∀ a b : Nat, a < 600 → b < 600 → a ≠ b → ¬ nI a = nI b := fun a b ha hb hne z => hne ((nI_eq (by omega) (by omega)).mp z)
    by_cases o : orS B t (plc B t k) = true
    · rw [if_pos o]
      rcases (orS_b o).1 with a | a
      · rw [a, if_pos rfl, if_pos o, if_neg (show ¬ nI (60 + 256) = 60 by decide), if_neg (show ¬ nI (60 + 256) = 61 by decide), if_neg (show ¬ nI (60 + 256) = 62 by decide), if_pos (show nI (60 + 256) = 316 by decide)]
        rfl
      · rw [a, if_neg (show ¬ (62 : Nat) = 60 by decide), if_neg (show ¬ (62 : Nat) = 61 by decide), if_pos rfl, if_pos o, if_neg (show ¬ nI (62 + 256) = 60 by decide), if_neg (show ¬ nI (62 + 256) = 61 by decide), if_neg (show ¬ nI (62 + 256) = 62 by decide), if_neg (show ¬ nI (62 + 256) = 316 by decide), if_pos (show nI (62 + 256) = 318 by decide)]
        rfl
    · rw [if_neg o, if_neg o, if_neg o]
      by_cases a : B (plc B t k) = 60
      · rw [a, if_pos (show nI 60 = 60 from rfl), if_pos rfl]
        rfl
      · rw [if_neg a, if_neg (show ¬ nI (B (plc B t k)) = 60 from E _ 60 (by omega) (by omega) a)]
        by_cases b : B (plc B t k) = 61
        · rw [b, if_pos (show nI 61 = 61 from rfl), if_pos rfl]
          rfl
        · rw [if_neg b, if_neg (show ¬ nI (B (plc B t k)) = 61 from E _ 61 (by omega) (by omega) b)]
          by_cases c : B (plc B t k) = 62
          · rw [c, if_pos (show nI 62 = 62 from rfl), if_pos rfl]
            rfl
          · rw [if_neg c, if_neg (show ¬ nI (B (plc B t k)) = 62 from E _ 62 (by omega) (by omega) c), if_neg (show ¬ nI (B (plc B t k)) = 316 from E _ 316 (by omega) (by omega) (by omega)), if_neg (show ¬ nI (B (plc B t k)) = 318 from E _ 318 (by omega) (by omega) (by omega))]
            rfl
  · rw [if_neg q]
    by_cases w : plc B t k < t
    · have nq : ∀ v, sgB v = true → ¬ B (plc B t k) = v := fun v a z => q ((tk_4 (hB _)).mpr ⟨w, by rw [z]; exact a⟩)
      rw [if_pos w, if_neg (nq 60 sg_60), if_neg (nq 61 sg_61), if_neg (nq 62 sg_62)]
      rfl
    · rw [if_neg w]
      rfl
/-- behind the comparison's sign -/
def cmN (B : Nat → Nat) (t s : Nat) : Nat := if orS B t s = true then s + 2 else s + 1
theorem cmN_tk {B : Nat → Nat} {t s : Nat} (hB : ∀ i, i < t → B i < 256) (h : cmO B t s ≠ 0) : tkN B t s = cmN B t s ∧ cmN B t s ≤ t := by
  obtain ⟨w, b, -, -⟩ := cmO_ne h
  have hg : sgB (B s) = true := by rcases b with z | z | z <;> rw [z] <;> decide
  obtain ⟨n1, n2⟩ := ne_dg _ (hB _ w) hg
  unfold tkN cmN
  rw [if_neg (show ¬ t ≤ s by omega), if_neg n1, if_neg n2]
  by_cases o : orS B t s = true
  · rw [if_pos ⟨hg, o⟩, if_pos o]
    have := (orS_b o).2.1
    exact ⟨rfl, by omega⟩
  · rw [if_neg (fun z => o z.2), if_neg o]
    exact ⟨rfl, by omega⟩
theorem m_152 (N : Nat) (o : Nat) (μ : Mz) (x : Int32) (hx : (6 : Int32) + x = nI o) : b12_compare_152 N x μ = bd (p12_sum N μ) (fun r6 μ6 => if r6 = 0 then some (0, μ6) else bo (p12_puts N (nI o) 0 μ6) (fun μ7 => some (1, μ7))) := by
  unfold b12_compare_152
  rw [hx]
/-- the reference from the comparison's sign on -/
theorem m_cmp (N : Nat) (hN : 20000 ≤ N) {B : Nat → Nat} {t n k : Nat} {A : Nat → Nat} {κ : Cz} {μ : Mz} (hJ : PJ B t n k A κ μ) : bd (p12_see N μ) (fun r2 μ2 => lt (gi 2 μ2) (fun v3 => if r2 = 60 then b12_compare_44 N r2 v3 μ2 else if r2 = 61 then b12_compare_44 N r2 v3 μ2 else if r2 = 62 then b12_compare_44 N r2 v3 μ2 else bd (p12_fails N 0 v3 μ2) (fun r11 μ11 => ck (b01 r11) (some (r11, μ11))))) = if cmO B t (plc B t k) = 0 then some (0, flt 0 (plc B t k) (si 2 (nI (plc B t k)) μ)) else bd (p12_makes N (nI (plc B t k)) (si 2 (nI (cmN B t (plc B t k))) μ)) (fun r5 μ5 => if r5 = 0 then some (0, μ5) else bd (p12_sum N μ5) (fun r6 μ6 => if r6 = 0 then some (0, μ6) else bo (p12_puts N (nI (cmO B t (plc B t k))) 0 μ6) (fun μ7 => some (1, μ7)))) := by
  have Js := hJ.see
  have hle := plc_le B t k
  have hT := Js.2.2.1
  have ht := hT.1
  rw [m_seeJ N hN hJ, bd_s, lt_s9, gi_si, m_fails N (w := 0) 0 rfl, bd_s, ck_t b01_0]
  by_cases w : plc B t k < t
  · have wt : ¬ plc B t k = t := by omega
    obtain ⟨b9, -⟩ := hT.2.2 _ w
    rw [if_neg wt]
    have E : ∀ b : Nat, b < 600 → B (plc B t k) ≠ b → ¬ nI (B (plc B t k)) = nI b := fun b hb hne z => hne ((nI_eq (by omega) (by omega)).mp z)
    -- the sign is passed
    have P : b12_compare_44 N (nI (B (plc B t k))) (nI (plc B t k)) (si 2 (nI (plc B t k)) μ) = if orS B t (plc B t k) = true ∨ (plc B t k + 1 < t ∧ B (plc B t k + 1) = 61 ∧ ¬ B (plc B t k) = 61) then b12_compare_105 N (nI (B (plc B t k))) (nI (plc B t k)) 1 (si 2 (nI (plc B t k + 2)) μ) else b12_compare_105 N (nI (B (plc B t k))) (nI (plc B t k)) 0 (si 2 (nI (plc B t k + 1)) μ) := by
      unfold b12_compare_44 b12_compare_89
      rw [lt_s9, gi_si, nI_1, si_si, gi_si, gi_si_ne (by decide)]
      have t0 : gi 0 μ = nI t := hJ.2.2.1.2.1
      rw [t0, lt_s9]
      have e0 : b12_compare_90 N (nI (B (plc B t k))) (nI (plc B t k)) 0 (si 2 (nI (plc B t k + 1)) μ) = b12_compare_105 N (nI (B (plc B t k))) (nI (plc B t k)) 0 (si 2 (nI (plc B t k + 1)) μ) := by
        unfold b12_compare_90
        rw [if_pos rfl]
      have e1 : b12_compare_90 N (nI (B (plc B t k))) (nI (plc B t k)) 1 (si 2 (nI (plc B t k + 1)) μ) = b12_compare_105 N (nI (B (plc B t k))) (nI (plc B t k)) 1 (si 2 (nI (plc B t k + 2)) μ) := by
        unfold b12_compare_90
        rw [if_neg ne10, lt_s9, gi_si, nI_1, si_si]
      rw [e0, e1]
      by_cases a : B (plc B t k) = 61
      · rw [if_pos (show nI (B (plc B t k)) = 61 by rw [a]; rfl), if_neg (by
          rintro (z | z)
          · have := (orS_b z).1
            omega
          · exact z.2.2 a)]
      · rw [if_neg (show ¬ nI (B (plc B t k)) = 61 from E 61 (by omega) a)]
        by_cases c : t ≤ plc B t k + 1
        · rw [if_pos (nI_le c (by omega)), if_neg (by
            rintro (z | z)
            · have := (orS_b z).2.1
              omega
            · have := z.1
              omega)]
        · have c' : plc B t k + 1 < t := by omega
          obtain ⟨c9, cga⟩ := hJ.2.2.1.2.2 _ c'
          rw [if_neg (nI_ge c' (by omega)), ck_t (inb_nI (show plc B t k + 1 < 400 by omega) (by decide)), clN (by omega), ga_si, cga]
          by_cases d : B (plc B t k + 1) = 61
          · rw [if_pos (show sx (B (plc B t k + 1)) = 61 from (sx_eq c9 (k := 61) (by decide)).mpr d), if_pos (Or.inr ⟨c', d, a⟩)]
          · rw [if_neg (show ¬ sx (B (plc B t k + 1)) = 61 from fun z => d ((sx_eq c9 (k := 61) (by decide)).mp z)), if_neg (by
              rintro (z | z)
              · exact d (orS_b z).2.2
              · exact d z.2.1)]
    rw [P]
    have oS : (B (plc B t k) = 60 ∨ B (plc B t k) = 62) → ((orS B t (plc B t k) = true ∨ (plc B t k + 1 < t ∧ B (plc B t k + 1) = 61 ∧ ¬ B (plc B t k) = 61)) ↔ orS B t (plc B t k) = true) := by
      intro z
      refine ⟨fun y => ?_, Or.inl⟩
      rcases y with y | y
      · exact y
      · unfold orS
        simp only [Bool.and_eq_true, Bool.or_eq_true, decide_eq_true_eq]
        exact ⟨⟨z, y.1⟩, y.2.1⟩
    unfold cmO cmN b12_compare_105
    rw [if_pos w]
    by_cases a : B (plc B t k) = 60
    · have x60 : nI (B (plc B t k)) = 60 := by rw [a]; rfl
      rw [if_pos a, if_pos x60]
      by_cases o : orS B t (plc B t k) = true
      · rw [if_pos (Or.inl o), if_pos o, if_neg (by decide), if_pos o]
        congr 1
        funext r5 μ5
        rw [if_pos x60, if_neg ne10, m_152 N 7 μ5 1 (by decide)]
      · rw [if_neg (fun z => o ((oS (Or.inl a)).mp z)), if_neg o, if_neg (by decide), if_neg o]
        congr 1
        funext r5 μ5
        rw [if_pos x60, if_pos rfl, m_152 N 6 μ5 0 (by decide)]
    · have x60 : ¬ nI (B (plc B t k)) = 60 := E 60 (by omega) a
      rw [if_neg a, if_neg x60]
      by_cases b : B (plc B t k) = 61
      · have no : ¬ orS B t (plc B t k) = true := fun z => by have := (orS_b z).1; omega
        have x61 : nI (B (plc B t k)) = 61 := by rw [b]; rfl
        rw [if_pos b, if_pos x61, if_neg (by
          rintro (z | z)
          · exact no z
          · exact z.2.2 b), if_neg (by decide), if_neg no]
        congr 1
        funext r5 μ5
        rw [if_neg x60, if_pos x61, m_152 N 8 μ5 2 (by decide)]
      · have x61 : ¬ nI (B (plc B t k)) = 61 := E 61 (by omega) b
        rw [if_neg b, if_neg x61]
        by_cases c : B (plc B t k) = 62
        · rw [if_pos c, if_pos (show nI (B (plc B t k)) = 62 by rw [c]; rfl)]
          by_cases o : orS B t (plc B t k) = true
          · rw [if_pos (Or.inl o), if_pos o, if_neg (by decide), if_pos o]
            congr 1
            funext r5 μ5
            rw [if_neg x60, if_neg x61, if_neg ne10, m_152 N 9 μ5 3 (by decide)]
          · rw [if_neg (fun z => o ((oS (Or.inr c)).mp z)), if_neg o, if_neg (by decide), if_neg o]
            congr 1
            funext r5 μ5
            rw [if_neg x60, if_neg x61, if_pos rfl, m_152 N 10 μ5 4 (by decide)]
        · rw [if_neg c, if_neg (show ¬ nI (B (plc B t k)) = 62 from E 62 (by omega) c), if_pos rfl]
  · have wt : plc B t k = t := by omega
    unfold cmO
    rw [if_neg w, if_pos rfl, if_pos wt, if_neg (by decide), if_neg (by decide), if_neg (by decide)]
theorem tyCmp {x : Nat} (h : 6 ≤ x ∧ x ≤ 10) (st : List Bool) : tyStep x (false :: false :: st) = some (true :: st) := by
  obtain rfl | rfl | rfl | rfl | rfl : x = 6 ∨ x = 7 ∨ x = 8 ∨ x = 9 ∨ x = 10 := by omega
  all_goals rfl
theorem cOf_c {x : Nat} (h : 6 ≤ x ∧ x ≤ 10) : ¬ cOf x = 0 := by
  obtain rfl | rfl | rfl | rfl | rfl : x = 6 ∨ x = 7 ∨ x = 8 ∨ x = 9 ∨ x = 10 := by omega
  all_goals decide
/-- a comparison, both -/
theorem cmp_both (N : Nat) (hN : 20000 ≤ N) {B : Nat → Nat} {t n k R q : Nat} {G : Nat → Int32} {cs : List Nat} {v : Nat} {A : Nat → Nat} {κ : Cz} {μ : Mz} (hk : 0 < k) (h : RK B t n k R G q cs v A κ μ) : ∃ (r : Int32) (κ1 : Cz) (μ1 : Mz), p_RuleReader_readComparison N (A 15) κ = some κ1 ∧ p12_compare N μ = some (r, μ1) ∧ RO A κ μ r κ1 μ1 (∃ k1 e v1, RK B t n k1 R G q (cs ++ e) v1 A κ1 μ1 ∧ k < k1 ∧ ∀ st, tyL e st = some (true :: st)) := by
  have hs := h.1.1
  have hA := hs.inj
  have hB := h.byt
  obtain ⟨r, κ1, μ1, e1, m1, c1, M1, o⟩ := sum_both N hN hk h
  have hs1 := hs.chg c1
  unfold p_RuleReader_readComparison p12_compare
  rw [m1, bd_s]
  rcases o with ⟨rfl, k1, l1, v1, K1, hk1, ty1⟩ | ⟨rfl, F, fx, g3⟩
  · rw [if_neg ne10, m_cmp N hN K1.1]
    have T1 := K1.1.2.1
    have ht := K1.1.2.2.1.1
    have g30 : gi 3 μ1 = 0 := K1.1.2.2.2.1
    have cc := c_codeCmp N hs1 hB T1
    have hv1 : fi κ1 (A 15) 6 = nI v1 := K1.2.1.2.2.2.2.2.2.1
    have h60 : v1 ≤ 60 := K1.2.1.2.2.2.2.2.2.2.2.1
    have hkn1 : k1 ≤ n := T1.2.2.2.1
    have hn : n ≤ 400 := T1.2.2.1
    have hb1 := K1.2.2
    simp -implicitDefEqProofs only [hs.rR, ck_1, e1, bo_s, hs1.rR, hs1.tk, cc, bd_s, hv1, lt_s9, nI_1, bo_id]
    by_cases op : cmO B t (plc B t k1) = 0
    · rw [op, if_pos (show cOf 0 = 0 from rfl), if_pos rfl]
      obtain ⟨κ2, e2, f2, c2⟩ := c_fail N hs1 ht T1 (w := 0) (by decide)
      have e2' : p_Tokens_fail N (A 2) 0 κ1 = some κ2 := e2
      have g3s : gi 3 (si 2 (nI (plc B t k1)) μ1) = 0 := by rw [gi_si_ne (by decide)]; exact g30
      refine ⟨0, κ2, _, e2', rfl, c1.trans (lt5_m c2), ?_, Or.inr ⟨rfl, _, FX.of f2 K1.2.1 c2 (by omega), ?_⟩⟩
      · unfold flt
        rw [if_pos g3s]
        exact (M1.trans (MF.si (by unfold IS; omega) _ _)).trans (MF.si (by unfold IS; omega) _ _)
      · unfold flt
        rw [if_pos g3s, gi_si]
    · obtain ⟨w1, w2, w3, w4⟩ := cmO_ne op
      obtain ⟨n1, n2⟩ := cmN_tk hB op
      have Cn := K1.2.1.sI (j := 2) (by decide) (by decide) (nI (cmN B t (plc B t k1)))
      have Mn : MF IS J12 μ (si 2 (nI (cmN B t (plc B t k1))) μ1) := M1.trans (MF.si (by unfold IS; omega) _ _)
      have g3s : gi 3 (si 2 (nI (cmN B t (plc B t k1))) μ1) = 0 := by rw [gi_si_ne (by decide)]; exact g30
      rw [if_neg (cOf_c ⟨w3, w4⟩), if_neg op, m_makes N Cn.2.2.2.2.2.2.2.1 h60]
      by_cases q60 : v1 = 60
      · subst q60
        rw [if_neg (show ¬ nI 60 < (60 : Int32) by decide), if_pos rfl, bd_s, if_pos rfl]
        obtain ⟨κ2, e2, f2, c2⟩ := c_fail N hs1 ht T1 (w := 3) (by decide)
        have e2' : p_Tokens_fail N (A 2) 3 κ1 = some κ2 := e2
        refine ⟨0, κ2, _, e2', rfl, c1.trans (lt5_m c2), ?_, Or.inr ⟨rfl, _, FX.of f2 K1.2.1 c2 (by omega), ?_⟩⟩
        · unfold flt
          rw [if_pos g3s]
          exact Mn.trans (MF.si (by unfold IS; omega) _ _)
        · unfold flt
          rw [if_pos g3s, gi_si]
      · have v60 : v1 < 60 := by omega
        rw [if_pos (show nI v1 < (60 : Int32) from (nI_ltI (b := 60) (by omega) (by omega)).mpr v60), if_neg q60, bd_s, if_neg ne10]
        have gv : Chg A (fun r => r = 15 ∨ r = 16) κ1 (sfi (A 15) 6 (nI (v1 + 1)) κ1) := Chg.sfi (L := fun r => r = 15 ∨ r = 16) hA κ1 (r := 15) (Or.inl rfl) _ _
        have hs2 := hs1.chg gv
        have T2 := T1.chg gv (fun r z1 z2 z3 => by omega)
        obtain ⟨κ3, e3, T3, c3⟩ := c_goOn N hs2 T2
        have hkn := T1.lt w1
        rw [Nat.min_eq_left (by omega)] at T3
        have hs3 := hs2.chg c3
        have K3 : RK B t n (k1 + 1) R G (q + 1) (cs ++ l1) (v1 + 1) A κ3 (si 6 (nI (v1 + 1)) (si 2 (nI (cmN B t (plc B t k1))) μ1)) := by
          refine ⟨PJ.next hs3 T3 ((K1.1.2.2.1.si (by decide) _).si (by decide) _) (by rw [gi_si_ne (by decide)]; exact g3s) n2 (by rw [gi_si_ne (by decide), gi_si]) n1, (Cn.val v60).chg c3 (by unfold Lt5; omega) (by unfold Lt5; omega), by omega⟩
        have M3 := Mn.trans (MF.si (J := J12) (k := 6) (show IS 6 by unfold IS; omega) (nI (v1 + 1)) (si 2 (nI (cmN B t (plc B t k1))) μ1))
        obtain ⟨r, κ4, μ4, e4, m4, c4, M4, o4⟩ := sum_both N hN (by omega) K3
        have hs4 := hs3.chg c4
        rw [m4, bd_s]
        simp -implicitDefEqProofs only [hs2.rR, hs2.tk, ck_1, bo_s, e3, hs3.rR, e4, hs4.rR]
        rcases o4 with ⟨rfl, k2, l2, v2, K4, hk2, ty4⟩ | ⟨rfl, F, fx, g3⟩
        · obtain ⟨κ5, μ5, e5, m5, K5, c5, M5⟩ := put_op N (x := cmO B t (plc B t k1)) K4 (by omega)
          rw [if_neg ne10, m5, bo_s]
          refine ⟨1, κ5, μ5, e5, rfl, (((c1.trans (l1516_m gv)).trans (lt5_m c3)).trans c4).trans (l1516_m c5), (M3.trans M4).trans M5.j12, Or.inl ⟨rfl, k2, l1 ++ (l2 ++ [cmO B t (plc B t k1)]), v2, ?_, by omega, fun st => ?_⟩⟩
          · rw [← List.append_assoc, ← List.append_assoc]
            exact K5
          · rw [tyL_app _ _ _ _ (ty1 st), tyL_app _ _ _ _ (ty4 _)]
            exact tyL_1 (tyCmp ⟨w3, w4⟩ st)
        · obtain ⟨κ5, e5, f5, c5⟩ := f_add N hs4 fx (cOf (cmO B t (plc B t k1)))
          rw [if_pos rfl]
          exact ⟨0, κ5, μ4, e5, rfl, (((c1.trans (l1516_m gv)).trans (lt5_m c3)).trans c4).trans (l1516_m c5), M3.trans M4, Or.inr ⟨rfl, F, f5, g3⟩⟩
  · rw [if_pos rfl]
    refine ⟨0, κ1, μ1, ?_, rfl, c1, M1, Or.inr ⟨rfl, F, fx, g3⟩⟩
    simp -implicitDefEqProofs only [hs.rR, ck_1, e1, bo_s, hs1.rR, hs1.tk, f_codeComparison N hs1 fx.1, f_fail N hs1 fx.1, bd_s, if_true]
