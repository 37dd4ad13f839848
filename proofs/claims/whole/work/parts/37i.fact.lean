/-! a rule is read: a fact -/
theorem tyOps (a o : Nat) (s : List Bool) : tyL (opA a ++ opO o) (tz ((opA a ++ opO o).length + 1) s) = some (true :: s) := by
  have h1 := tyA a (opO o).length s
  have h2 := tyO o 0 s
  rw [Nat.add_zero] at h2
  rw [List.length_append, tyL_app _ _ _ _ h1, h2]
  rfl
theorem SS.si {st : List Nat} {μ : Mz} (h : SS st μ) {j : Nat} (h9 : j ≠ 9) (h7 : j ≠ 7) (x : Int32) : SS st (Jvm.Pilot.CErrataRowLaw_law_r9749_d90b29.si j x μ) := h.mf (I := fun k => k = j) (J := fun _ => False) (MF.si (I := fun k => k = j) (k := j) rfl _ _) (fun z => h9 z.symm) (fun z => h7 z.symm) id
theorem FCT_1 (N : Nat) (hN : 20000 ≤ N) {B : Nat → Nat} {t n k R : Nat} {G : Nat → Int32} {cs : List Nat} {v : Nat} {st : List Nat} {A : Nat → Nat} {κ : Cz} {μ : Mz} (hT : TJ B t n k R G cs v st A κ μ) (m f : Nat) : FCT N (m + 1) f μ = if isW B t (plc B t k) (CD 19) = true then bd (p12_opens N 11 (si 2 (nI (plc B t k)) μ)) (fun r7 μ7 => if r7 = 0 then some (0, μ7) else bo (p12_passWord N μ7) (fun μ8 => FCT N m f μ8)) else if plc B t k < t ∧ B (plc B t k) = 91 then bd (p12_opens N 91 (si 2 (nI (plc B t k)) μ)) (fun r5 μ5 => if r5 = 0 then some (0, μ5) else FCT N m f (si 2 ((gi 2 μ5) + 1) μ5)) else bd (b12_fact_2 N m 0 (si 2 (nI (plc B t k)) μ)) (fun r8 μ8 => if r8 = 0 then some (0, μ8) else CLG N N N f μ8) := by
  have Ts := hT.see
  have h2s : gi 2 (si 2 (nI (plc B t k)) μ) = nI (plc B t k) := gi_si _ _ _
  have w19 := m_wordS N hN Ts.1.1 h2s 7237492 (code := CD 19) (by decide) (by decide)
  have hle := plc_le B t k
  unfold FCT
  rw [b12_fact_2, if_neg ne10, m_seeJ N hN hT.1.1, bd_s, w19, bd_s, ite10]
  by_cases a : isW B t (plc B t k) (CD 19) = true
  · rw [if_pos a, if_pos a, bd_bd]
    congr 1
    funext r7 μ7
    by_cases q : r7 = 0
    · rw [if_pos q, if_pos q, bd_s, if_pos rfl]
    · rw [if_neg q, if_neg q, bo_bd]
  · rw [if_neg a, if_neg a]
    by_cases b : plc B t k < t ∧ B (plc B t k) = 91
    · rw [if_pos b, if_neg (show ¬ plc B t k = t by omega), if_pos (show nI (B (plc B t k)) = 91 by rw [b.2]; rfl), bd_bd]
      congr 1
      funext r5 μ5
      by_cases q : r5 = 0
      · rw [if_pos q, if_pos q, bd_s, if_pos rfl]
      · rw [if_neg q, if_neg q, lt_s9]
    · rw [if_neg b]
      by_cases e : plc B t k = t
      · rw [if_pos e, if_neg (by decide)]
      · have hlt : plc B t k < t := by omega
        have b9 := hT.1.byt _ hlt
        rw [if_neg e, if_neg (show ¬ nI (B (plc B t k)) = 91 from fun z => b ⟨hlt, (nI_eq (by omega) (by omega)).mp (show nI (B (plc B t k)) = nI 91 from z)⟩)]
theorem MF.t796 {μ μ1 : Mz} (h : MF (fun k => k = 7 ∨ k = 9) (fun k => k = 6) μ μ1) : MF IT JT μ μ1 := h.mono (fun _ z => by unfold IT; omega) (fun _ z => by unfold JT; omega)
theorem fact_all (N : Nat) (hN : 20000 ≤ N) {B : Nat → Nat} {t n R : Nat} {G : Nat → Int32} {A : Nat → Nat} : ∀ D, PF N B t n R G A D := by
  intro D
  induction D using Nat.strongRecOn with
  | ind D IH =>
  intro k v m f cs st κ μ hT hk hD hm hf
  obtain ⟨D, rfl⟩ : ∃ z, D = z + 1 := ⟨D - 1, by omega⟩
  have hl := hT.len
  obtain ⟨m, rfl⟩ : ∃ z, m = z + 1 := ⟨m - 1, by omega⟩
  have hs := hT.1.1.1
  have hTk := hT.1.1.2.1
  have ht := hT.1.1.2.2.1.1
  have hB := hT.1.byt
  have hdp : dpL st ≤ 10 := hT.2.2.2.2.2
  have Ts := hT.see
  have h2s : gi 2 (si 2 (nI (plc B t k)) μ) = nI (plc B t k) := gi_si _ _ _
  have Ms : MF IT JT μ (si 2 (nI (plc B t k)) μ) := MF.si (by unfold IT IS; omega) _ _
  have g3s : gi 3 (si 2 (nI (plc B t k)) μ) = 0 := Ts.1.1.2.2.2.1
  have i19 : p_Tokens_isWord N (A 2) 19 κ = _ := c_isWord N hs hTk (w := 19) (by decide)
  have i91 : p_Tokens_isSign N (A 2) 91 κ = _ := c_isSign N hs hB hTk (v := 91) (by decide) (by decide) (by decide) (by decide)
  unfold FE
  rw [FCT_1 N hN hT m f]
  show ∃ κ1, q_RuleReader_readFact N (r_RuleReader_readTest_RuleReader_readFact N D).1 (r_RuleReader_readTest_RuleReader_readFact N D).2 (A 15) (nI (dpL st)) κ = some κ1 ∧ _
  unfold q_RuleReader_readFact
  simp -implicitDefEqProofs only [hs.rR, hs.tk, ck_1, bo_s, bd_s, i19, i91]
  -- too deep
  have deep : ¬ dpL st < 10 → ∀ (T F : Nat → Int32 → Cz → Option Cz) (x : Int32), ∃ κ1, b_RuleReader_readFact_33 N T F (A 15) (nI (dpL st)) x κ = some κ1 ∧ Chg A LSm κ κ1 ∧ RX A κ1 (flt 2 (plc B t k) (si 2 (nI (plc B t k)) μ)) ∧ MF IT JT μ (flt 2 (plc B t k) (si 2 (nI (plc B t k)) μ)) := by
    intro hd T F x
    obtain ⟨κ1, e1, f1, c1⟩ := c_fail N hs ht hTk (w := 2) (by decide)
    have e1' : p_Tokens_fail N (A 2) 2 κ = some κ1 := e1
    refine ⟨κ1, ?_, lt5_m c1, ⟨_, FX.of f1 hT.1.2.1 c1 (by omega), ?_⟩, ?_⟩
    · unfold b_RuleReader_readFact_33
      rw [if_neg (show ¬ nI (dpL st) < (10 : Int32) from nI_nlt (b := 10) (by omega) (by omega))]
      simp -implicitDefEqProofs only [hs.rR, hs.tk, ck_1, bo_s, e1']
    · unfold flt
      rw [if_pos g3s, gi_si]
    · unfold flt
      rw [if_pos g3s]
      exact Ms.trans (MF.si (by unfold IT IS; omega) _ _)
  by_cases a : isW B t (plc B t k) (CD 19) = true
  · -- not
    rw [if_pos a, if_pos a, if_neg ne10]
    by_cases hd : dpL st < 10
    · have hlt : plc B t k < t := by
        by_cases z : plc B t k < t
        · exact z
        · have h0 := (isW_iff.mp a).1
          unfold wdL at h0
          rw [runTo_t _ _ (by omega)] at h0
          omega
      have hkn := hTk.lt hlt
      obtain ⟨μ1, m1, S1, M1⟩ := m_opens N (s := 11) Ts.2 (by omega) (Or.inl rfl) hd
      have J1 : PJ B t n k A κ μ1 := Ts.1.1.mf M1 (by omega) (by omega) (by omega) (by omega)
      have h21 : gi 2 μ1 = nI (plc B t k) := (M1.1 2 (by omega)).trans h2s
      obtain ⟨κg, eg, pw, Jw, cg⟩ := word_S N hN J1 h21 a
      have hsg := hs.chg cg
      have C1 : RC R G cs v A κ μ1 := Ts.1.2.1.mf M1 (by omega) (by omega) (by omega) (by omega)
      have T2 : TJ B t n (k + 1) R G cs v (11 :: st) A κg (si 2 (nI (runTo smB B t (plc B t k))) μ1) := ⟨⟨Jw, (C1.chg cg (by unfold Lt5; omega) (by unfold Lt5; omega)).sI (by decide) (by decide) _, by have : (11 :: st).length = st.length + 1 := rfl; omega⟩, S1.si (by decide) (by decide) _⟩
      have M2 : MF IT JT μ (si 2 (nI (runTo smB B t (plc B t k))) μ1) := (Ms.trans M1.t796).trans (MF.si (by unfold IT IS; omega) _ _)
      have d11 : dpL (11 :: st) = dpL st + 1 := by rw [dpL, if_pos (Or.inl rfl), Nat.add_comm]
      obtain ⟨κ3, e3, c3, o3⟩ := IH D (by omega) (k + 1) v m f cs (11 :: st) κg _ T2 (by omega) (by rw [d11]; omega) (by omega) (by omega)
      rw [d11] at e3
      have hs3 := hsg.chg c3
      rw [show p12_opens N 11 (si 2 (nI (plc B t k)) μ) = some (1, μ1) from m1, bd_s, if_neg ne10, pw, bo_s]
      have X : ∀ κ4, p_RuleReader_add N (A 15) (-20) κ3 = some κ4 → b_RuleReader_readFact_33 N (r_RuleReader_readTest_RuleReader_readFact N D).1 (r_RuleReader_readTest_RuleReader_readFact N D).2 (A 15) (nI (dpL st)) 1 κ = some κ4 := by
        intro κ4 h4
        unfold b_RuleReader_readFact_33
        rw [if_pos (show nI (dpL st) < (10 : Int32) from (nI_ltI (b := 10) (by omega) (by omega)).mpr hd)]
        simp -implicitDefEqProofs only [hs.rR, hs.tk, ck_1, bo_s, eg, hsg.rR, nI_1, e3, hs3.rR, h4]
        rw [if_neg ne10]
      rcases o3 with ⟨μ3, k3, l3, v3, h3, g3, f3, E3, T3, hk3, hh3, hg3, hf3, ty3, M3⟩ | ⟨μ3, E3, ⟨F, fx, gF⟩, M3⟩
      · have hl3 := T3.len
        have ln : (11 :: st).length = st.length + 1 := rfl
        rw [ln] at hl3 hh3
        obtain ⟨h3, rfl⟩ : ∃ z, h3 = z + 1 := ⟨h3 - 1, by omega⟩
        obtain ⟨κ4, μ4, e4, m4, C4, S4, c4, M4⟩ := lay_step N (least := 3) hs3 T3.1.2.1 T3.2 (by omega) (by decide) (by decide) (by decide)
        refine ⟨κ4, X κ4 e4, ((lt5_m cg).trans c3).trans (l1516_m c4), Or.inl ⟨μ4, k3, l3 ++ [11], v3, h3, g3, f3, ?_, ⟨⟨?_, ?_, ?_⟩, S4⟩, by omega, by omega, hg3, hf3, fun s => ?_, (M2.trans M3).trans (m79_t M4)⟩⟩
        · rw [E3]
          unfold CLG
          rw [show b12_layDown_0 N (h3 + 1) 3 μ3 = b12_layDown_0 N h3 3 μ4 from m4 h3]
        · exact (T3.1.1.mf M4 (by unfold I79; omega) (by unfold I79; omega) (by unfold I79; omega) (by unfold J126; omega)).chg c4 (fun r z1 z2 z3 => by omega)
        · rw [← List.append_assoc]; exact C4
        · rw [← List.append_assoc, List.length_append (as := cs ++ l3)]
          simp only [List.length_cons, List.length_nil]
          omega
        · rw [tyL_app _ _ _ _ (ty3 s)]
          exact tyL_1 rfl
      · obtain ⟨κ4, e4, f4, c4⟩ := f_add N hs3 fx (-20)
        exact ⟨κ4, X κ4 e4, ((lt5_m cg).trans c3).trans (l1516_m c4), Or.inr ⟨μ3, E3, ⟨F, f4, gF⟩, M2.trans M3⟩⟩
    · obtain ⟨κ1, e1, c1, x1, M1⟩ := deep hd (r_RuleReader_readTest_RuleReader_readFact N D).1 (r_RuleReader_readTest_RuleReader_readFact N D).2 1
      exact ⟨κ1, e1, c1, Or.inr ⟨_, by rw [m_opens10 N 11 Ts.2 hd h2s, bd_s, if_pos rfl], x1, M1⟩⟩
  · rw [if_neg a, if_neg a, if_pos rfl]
    by_cases b : plc B t k < t ∧ B (plc B t k) = 91
    · rw [if_pos b, if_pos b, if_neg ne10]
      by_cases hd : dpL st < 10
      · have hkn := hTk.lt b.1
        obtain ⟨D, rfl⟩ : ∃ z, D = z + 1 := ⟨D - 1, by omega⟩
        obtain ⟨μ1, m1, S1, M1⟩ := m_opens N (s := 91) Ts.2 (by omega) (Or.inr rfl) hd
        have J1 : PJ B t n k A κ μ1 := Ts.1.1.mf M1 (by omega) (by omega) (by omega) (by omega)
        have h21 : gi 2 μ1 = nI (plc B t k) := (M1.1 2 (by omega)).trans h2s
        obtain ⟨κg, eg, Jw, cg⟩ := sign_both N J1 b.1 (by rw [b.2]; decide) (fun z => by have := (orS_b z).1; omega)
        have hsg := hs.chg cg
        have C1 : RC R G cs v A κ μ1 := Ts.1.2.1.mf M1 (by omega) (by omega) (by omega) (by omega)
        have ln : (91 :: st).length = st.length + 1 := rfl
        have T2 : TJ B t n (k + 1) R G cs v ((opA 0 ++ opO 0) ++ (91 :: st)) A κg (si 2 (nI (plc B t k + 1)) μ1) := ⟨⟨Jw, (C1.chg cg (by unfold Lt5; omega) (by unfold Lt5; omega)).sI (by decide) (by decide) _, by show cs.length + (91 :: st).length ≤ k + 1; omega⟩, S1.si (by decide) (by decide) _⟩
        have M2 : MF IT JT μ (si 2 (nI (plc B t k + 1)) μ1) := (Ms.trans M1.t796).trans (MF.si (by unfold IT IS; omega) _ _)
        have d91 : dpL (91 :: st) = dpL st + 1 := by rw [dpL, if_pos (Or.inr rfl), Nat.add_comm]
        have hst91 : ∀ s st', 91 :: st = s :: st' → stg s < 1 := by
          intro s st' h
          have := (List.cons.inj h).1
          subst this
          decide
        obtain ⟨κ3, e3, c3, o3⟩ := test_run N hN (IH D (by omega)) (st := 91 :: st) hst91 (by rw [d91]; omega) (r_RuleReader_readTest_RuleReader_readFact N D).1 500 (k + 1) v 0 0 0 m f N cs κg _ (by omega) (by omega) (by omega) (by omega) (by omega) (by omega) (by omega) (by omega) T2
        rw [d91] at e3
        have e3' : (r_RuleReader_readTest_RuleReader_readFact N (D + 1)).1 (A 15) (nI (dpL st + 1)) κg = some κ3 := e3
        have hs3 := hsg.chg c3
        rw [show p12_opens N 91 (si 2 (nI (plc B t k)) μ) = some (1, μ1) from m1, bd_s, if_neg ne10, h21, nI_1]
        have X : ∀ κ4, p_Tokens_takeSign N (A 2) 93 κ3 = some κ4 → b_RuleReader_readFact_33 N (r_RuleReader_readTest_RuleReader_readFact N (D + 1)).1 (r_RuleReader_readTest_RuleReader_readFact N (D + 1)).2 (A 15) (nI (dpL st)) 0 κ = some κ4 := by
          intro κ4 h4
          unfold b_RuleReader_readFact_33
          rw [if_pos (show nI (dpL st) < (10 : Int32) from (nI_ltI (b := 10) (by omega) (by omega)).mpr hd)]
          simp -implicitDefEqProofs only [hs.rR, hs.tk, ck_1, bo_s, eg, hsg.rR, nI_1, e3', hs3.rR, hs3.tk, h4, if_true]
        rcases o3 with ⟨κ0, μ3, k3, l3, v3, h3, g3, f3, a3, o3, E3, T3, A3, hk3, hh3, hg3, hf3, n18, n17, ty3, M3⟩ | ⟨μ3, E3, ⟨F, fx, gF⟩, M3⟩
        · have hl3 := T3.len
          have lo : ((opA a3 ++ opO o3) ++ (91 :: st)).length = (opA a3 ++ opO o3).length + (91 :: st).length := List.length_append
          rw [lo, ln] at hl3 hh3
          obtain ⟨h3, rfl⟩ : ∃ z, h3 = z + 1 := ⟨h3 - 1, by omega⟩
          obtain ⟨g3, rfl⟩ : ∃ z, g3 = z + 1 := ⟨g3 - 1, by omega⟩
          obtain ⟨f3, rfl⟩ : ∃ z, f3 = z + 1 := ⟨f3 - 1, by omega⟩
          have hs0 := T3.1.1.1
          have cA := A3.chg hs0
          have Tk3 := T3.1.1.2.1.chg cA (fun r z1 z2 z3 => by omega)
          have ts : p_Tokens_takeSign N (A 2) 93 κ3 = _ := c_takeSign N hs3 hB Tk3 (v := 93) (by decide) (by decide) (by decide) (by decide)
          have Ts3 := T3.see
          have h2s3 : gi 2 (si 2 (nI (plc B t k3)) μ3) = nI (plc B t k3) := gi_si _ _ _
          have Ms3 : MF IT JT μ (si 2 (nI (plc B t k3)) μ3) := (M2.trans M3).trans (MF.si (by unfold IT IS; omega) _ _)
          have in91 : 91 ∈ (opA a3 ++ opO o3) ++ (91 :: st) := List.mem_append.mpr (Or.inr (List.mem_cons_self ..))
          have hA3 : ∀ x, x ∈ opA a3 ++ opO o3 → x ≠ 91 ∧ 1 ≤ stg x ∧ stg x < 3 := by
            intro x hx
            rcases List.mem_append.mp hx with z | z
            · rw [opA_in z]; decide
            · rw [opO_in z]; decide
          have CL : CLG N (h3 + 1) (g3 + 1) (f3 + 1) μ3 = CL5 N (g3 + 1) (f3 + 1) μ3 := by
            unfold CLG
            rw [show b12_layDown_0 N (h3 + 1) 3 μ3 = some μ3 from lay_stop N T3.2 (by rw [lo, ln]; omega) (least := 3) (by omega) (by omega) (head_app (least := 3) (fun x hx => (hA3 x hx).2.2) (fun s st' h => by have := hst91 s st' h; omega)), bo_s]
          by_cases cb : plc B t k3 < t ∧ B (plc B t k3) = 93
          · rw [if_pos cb] at ts
            obtain ⟨κ4, μ4, a4, l4, C4, S4, c4, M4⟩ := lay_all N (least := 1) (by omega) (by omega) hst91 (by omega) (opA a3 ++ opO o3) (cs ++ l3) κ0 _ hs0 Ts3.1.2.1 Ts3.2 (by omega) (fun x hx => ⟨(hA3 x hx).1, (hA3 x hx).2.1⟩)
            have : κ4 = κ3 := a4.det A3
            subst this
            have g2 : gi 2 μ4 = nI (plc B t k3) := (M4.1 2 (by unfold I79; omega)).trans h2s3
            have g7 : gi 7 μ4 - 1 = nI (dpL st) := by rw [S4.2.2.1, d91, nI_pred]
            have g9 : gi 9 μ4 - 1 = nI st.length := by rw [S4.2.1, ln, nI_pred]
            have J4 : PJ B t n k3 A κ4 (si 7 (nI (dpL st)) (si 9 (nI st.length) μ4)) := (((Ts3.1.1.mf M4 (by unfold I79; omega) (by unfold I79; omega) (by unfold I79; omega) (by unfold J126; omega)).chg c4 (fun r z1 z2 z3 => by omega)).si (by decide) (by decide) (by decide) _).si (by decide) (by decide) (by decide) _
            obtain ⟨κ5, e5, J5, c5⟩ := sign_both N J4 cb.1 (by rw [cb.2]; decide) (fun z => by have := (orS_b z).1; omega)
            rw [e5] at ts
            refine ⟨κ5, X κ5 ts, ((lt5_m cg).trans c3).trans (lt5_m c5), Or.inl ⟨_, k3 + 1, l3 ++ (opA a3 ++ opO o3), v3, N, g3, f3 + 1, ?_, ⟨⟨J5, ?_, ?_⟩, ?_⟩, by omega, by omega, by omega, by omega, fun s => ?_, ?_⟩⟩
            · rw [E3, CL, cl5_close N hN T3 g3 (f3 + 1) cb.1 cb.2 in91, show b12_layDown_0 N N 1 (si 2 (nI (plc B t k3)) μ3) = some μ4 from l4 N (by omega), bo_s, g2, g7, g9, nI_1]
            · rw [← List.append_assoc]
              exact (((C4.chg c5 (by unfold Lt5; omega) (by unfold Lt5; omega)).sI (by decide) (by decide) _).sI (by decide) (by decide) _).sI (by decide) (by decide) _
            · rw [← List.append_assoc, List.length_append (as := cs ++ l3)]
              omega
            · obtain ⟨q1, q2, q3, q4, q5⟩ := S4
              refine ⟨?_, ?_, ?_, fun x hx => q4 x (List.mem_cons_of_mem _ hx), by omega⟩
              · rw [ga_si, ga_si, ga_si]; exact q1.2
              · rw [gi_si_ne (by decide), gi_si_ne (by decide), gi_si]
              · rw [gi_si_ne (by decide), gi_si]
            · have ty3' : tyL l3 s = some (tz ((opA a3 ++ opO o3).length + 1) s) := ty3 s
              rw [tyL_app _ _ _ _ ty3']
              exact tyOps a3 o3 s
            · exact (((Ms3.trans (m79_t M4)).trans (MF.si (by unfold IT IS; omega) _ _)).trans (MF.si (by unfold IT IS; omega) _ _)).trans (MF.si (by unfold IT IS; omega) _ _)
          · rw [if_neg cb] at ts
            obtain ⟨κ4, e4, f4, c4⟩ := c_fail N hs3 ht Tk3 (w := 0) (by decide)
            have e4' : p_Tokens_fail N (A 2) 0 κ3 = some κ4 := e4
            rw [e4'] at ts
            have g33 : gi 3 (si 2 (nI (plc B t k3)) μ3) = 0 := Ts3.1.1.2.2.2.1
            have se := m_seeJ N hN Ts3.1.1
            rw [si_si] at se
            have z4 : FX (1 + 8 * plc B t k3 + 0) A κ4 := by
              obtain ⟨κ9, μ9, a9, l9, C9, _⟩ := lay_all N (least := 1) (by omega) (by omega) hst91 (by omega) (opA a3 ++ opO o3) (cs ++ l3) κ0 _ hs0 Ts3.1.2.1 Ts3.2 (by omega) (fun x hx => ⟨(hA3 x hx).1, (hA3 x hx).2.1⟩)
              have : κ9 = κ3 := a9.det A3
              subst this
              exact FX.of f4 C9 c4 (by rw [List.length_append (as := cs ++ l3)]; omega)
            refine ⟨κ4, X κ4 ts, ((lt5_m cg).trans c3).trans (lt5_m c4), Or.inr ⟨flt 0 (plc B t k3) (si 2 (nI (plc B t k3)) μ3), ?_, ⟨_, z4, ?_⟩, ?_⟩⟩
            · rw [E3, CL, cl5_stop N hN T3 g3 (f3 + 1) (Or.inl cb), aft_w N hN Ts3.1.1 h2s3, if_neg n18, if_neg n17, b12_tested_12, if_pos rfl, m_isInside N hN Ts3.2 (by rw [lo, ln]; omega), bd_s, if_pos in91, if_neg ne10, se, bd_s, gi_si, m_fails N (w := 0) 0 rfl, bd_s, ck_t b01_0]
            · unfold flt
              rw [if_pos g33, gi_si]
            · unfold flt
              rw [if_pos g33]
              exact Ms3.trans (MF.si (by unfold IT IS; omega) _ _)
        · have ts := f_takeSign N hs3 fx.1 93
          exact ⟨κ3, X κ3 ts, (lt5_m cg).trans c3, Or.inr ⟨μ3, E3, ⟨F, fx, gF⟩, M2.trans M3⟩⟩
      · obtain ⟨κ1, e1, c1, x1, M1⟩ := deep hd (r_RuleReader_readTest_RuleReader_readFact N D).1 (r_RuleReader_readTest_RuleReader_readFact N D).2 0
        exact ⟨κ1, e1, c1, Or.inr ⟨_, by rw [m_opens10 N 91 Ts.2 hd h2s, bd_s, if_pos rfl], x1, M1⟩⟩
    · rw [if_neg b, if_neg b, if_pos rfl]
      obtain ⟨m, rfl⟩ : ∃ z, m = z + 1 := ⟨m - 1, by omega⟩
      obtain ⟨r, κ1, μ1, e1, m1, c1, M1, o1⟩ := cmp_both N hN hk Ts.1
      have br : b01 r = true := b01_r (o1.imp And.left And.left)
      rw [b12_fact_2, if_pos rfl, m1, bd_s, ck_t br, bd_s, e1]
      rcases o1 with ⟨rfl, k1, l1, v1, K1, hk1, ty1⟩ | ⟨rfl, x1⟩
      · rw [if_neg ne10]
        have hk1n : k1 ≤ n := K1.1.2.1.2.2.2.1
        exact ⟨κ1, rfl, c1, Or.inl ⟨μ1, k1, l1, v1, N, N, f, rfl, ⟨K1, Ts.2.mf M1 (by unfold IS; omega) (by unfold IS; omega) (by unfold J12; omega)⟩, hk1, by omega, by omega, by omega, ty1, Ms.trans (is_t M1)⟩⟩
      · rw [if_pos rfl]
        exact ⟨κ1, rfl, c1, Or.inr ⟨μ1, rfl, x1, Ms.trans (is_t M1)⟩⟩
