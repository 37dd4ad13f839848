/-! a rule is read, all of it -/
def IRu0 (k : Nat) : Prop := k = 0 ∨ IRu k
theorem iru_0 {μ μ1 : Mz} (h : MF IRu JRu μ μ1) : MF IRu0 JRu μ μ1 := h.mono (fun _ z => Or.inr z) (fun _ z => z)
/-- a rule that was read -/
def RQ (R c : Nat) (G H Q : Nat → Int32) (s en : Nat → Nat) (cs : List Nat) (v : Nat) (A : Nat → Nat) (κ : Cz) (μ : Mz) : Prop := RC0 R G cs v A κ μ ∧ cs.length ≤ 400 ∧ c ≤ 12 ∧ fi κ (A 15) 5 = nI c ∧ ga 4 μ R = nI c ∧ en 0 = 0 ∧ CR R c s en cs A κ μ ∧ KP R G H Q μ
def RE (R : Nat) (G H Q : Nat → Int32) (A : Nat → Nat) (κ : Cz) (μ : Mz) (r r1 : Int32) (κ1 : Cz) (μ1 : Mz) : Prop := Chg A LRu κ κ1 ∧ MF IRu0 JRu μ μ1 ∧ gi 0 μ1 = 0 ∧ ((r = 0 ∧ r1 = 1 ∧ ∃ c s en cs v, RQ R c G H Q s en cs v A κ1 μ1) ∨ ∃ F, 0 < F ∧ F < 2 ^ 31 ∧ r = nI F ∧ r1 = 0 ∧ gi 3 μ1 = nI F ∧ KP R G H Q μ1)
theorem rl_bad (N : Nat) {R F nM : Nat} {G H Q : Nat → Int32} {A : Nat → Nat} {κ κ1 : Cz} {μ μ1 : Mz} (F0 : 0 < F) (F1 : F < 2 ^ 31) (m1 : p12_clauseHere N μ = some (0, μ1)) (g1 : gi 3 μ1 = nI F) (c1 : Chg A LRu κ κ1) (M1 : MF IRu JRu μ μ1) (kp : KP R G H Q μ1) : bd (p12_clauseHere N μ) (fun r7 μ7 => b12_readsAll_35 N (nM + 1) r7 μ7) = some (0, si 0 0 μ1) ∧ RE R G H Q A κ μ (nI F) 0 κ1 (si 0 0 μ1) := by
  refine ⟨?_, c1, (iru_0 M1).trans (MF.si (by unfold IRu0; omega) _ _), gi_si _ _ _, Or.inr ⟨F, F0, F1, rfl, rfl, by rw [gi_si_ne (by decide)]; exact g1, kp⟩⟩
  rw [m1, bd_s, b12_readsAll_35, if_pos rfl]
  unfold b12_readsAll_66
  rw [if_pos rfl, m_88, g1, if_neg (nI_ne0 F0 F1)]
theorem rl_all (N : Nat) (hN : 20000 ≤ N) {B : Nat → Nat} {t n R : Nat} {G H Q : Nat → Int32} {A : Nat → Nat} : ∀ (d c k nC nM v : Nat) (s en : Nat → Nat) (cs : List Nat) (κ : Cz) (μ : Mz), c + d = 12 → RM B t n k R c G H Q s en cs v A κ μ → ∃ (r r1 : Int32) (κ1 : Cz) (μ1 : Mz), b_RuleReader_readRule_15 N (nC + d + 2) (A 15) κ = some (r, κ1) ∧ bd (p12_clauseHere N μ) (fun r7 μ7 => b12_readsAll_35 N (nM + d + 1) r7 μ7) = some (r1, μ1) ∧ RE R G H Q A κ μ r r1 κ1 μ1 := by
  intro d
  induction d with
  | zero =>
    intro c k nC nM v s en cs κ μ hc hM
    rcases rl_clause N hN hM nC with ⟨_, _, _, _, _, _, _, _, z, _⟩ | ⟨F, κ1, μ1, F0, F1, e1, m1, g1, c1, M1, kp⟩
    · exact absurd z (by omega)
    · obtain ⟨h1, h2⟩ := rl_bad N (nM := nM) F0 F1 m1 g1 c1 M1 kp
      exact ⟨nI F, 0, κ1, _, e1, h1, h2⟩
  | succ d ih =>
    intro c k nC nM v s en cs κ μ hc hM
    rw [show nC + (d + 1) + 2 = (nC + d + 1) + 2 by omega]
    rcases rl_clause N hN hM (nC + d + 1) with ⟨κ1, μ1, k1, s1, en1, cs1, v1, hk1, hc1, e1, m1, rm, c1, M1⟩ | ⟨F, κ1, μ1, F0, F1, e1, m1, g1, c1, M1, kp⟩
    · have J1 := rm.1
      have T1 := J1.2.1
      have hs1 := J1.1
      have hA := hs1.inj
      have hB : ∀ i, i < t → B i < 256 := fun i hi => (J1.2.2.1.2.2 i hi).1
      have k5 : fi κ1 (A 2) 5 = tkK B t (plc B t k1) := T1.2.2.2.2.2.2.1
      have g3 : gi 3 μ1 = 0 := J1.2.2.2.1
      have se := m_seeJ N hN J1
      have Js := J1.see
      have se2 := m_seeJ N hN Js
      rw [si_si] at se2
      have hle := plc_le B t k1
      obtain ⟨-, rC, rk, r12, r5, r4, r8, re0, rec, rr, rH, rQ⟩ := rm
      have hn4 : n ≤ 400 := T1.2.2.1
      have hkn : k1 ≤ n := T1.2.2.2.1
      have kp1 : KP R G H Q μ1 := ⟨rC.2.2.2.2.2.1, rH, rQ⟩
      have M10 := iru_0 M1
      rw [e1, k5, m1, bd_s, show nM + (d + 1) + 1 = (nM + d + 1) + 1 by omega, b12_readsAll_35, if_neg ne10, se, bd_s]
      by_cases en' : plc B t k1 = t
      · rw [if_pos (tk_end.mpr (by omega)), if_pos en', if_neg (by decide)]
        unfold b12_readsAll_66
        rw [if_neg ne10, se2, bd_s, if_pos en', if_pos rfl, m_88, gi_si_ne (by decide), g3, if_pos rfl]
        refine ⟨0, 1, κ1, _, rfl, rfl, c1, (M10.trans (MF.si (Or.inr (by unfold IRu; omega)) _ _)).trans (MF.si (Or.inl rfl) _ _), gi_si _ _ _, Or.inl ⟨rfl, rfl, c + 1, s1, en1, cs1, v1, ?_, by omega, r12, r5, r4, re0, rr, kp1⟩⟩
        obtain ⟨d1, d2, d3, d4, d5, d6, d7, d8, d9, d10⟩ := rC
        exact ⟨d1, by rw [gi_si_ne (by decide), gi_si_ne (by decide)]; exact d2, d3, d4, d5, d6, d7, by rw [gi_si_ne (by decide), gi_si_ne (by decide)]; exact d8, d9, d10⟩
      · have hlt : plc B t k1 < t := by omega
        have nk : ¬ tkK B t (plc B t k1) = 0 := fun z => absurd (tk_end.mp z) (by omega)
        have ts : p_Tokens_takeSign N (A 2) 59 κ1 = _ := c_takeSign N hs1 hB T1 (v := 59) (by decide) (by decide) (by decide) (by decide)
        rw [if_neg nk, if_neg en']
        by_cases sg : B (plc B t k1) = 59
        · obtain ⟨κ2, e2, J2, c2⟩ := sign_both N J1 hlt (by rw [sg]; decide) (fun z => by have := (orS_b z).1; omega)
          rw [if_pos ⟨hlt, sg⟩, e2] at ts
          rw [ts, bo_s, sg, if_pos (show nI 59 = 59 from rfl), lt_s9, gi_si, nI_1, si_si]
          have cr : Chg A LRu κ1 κ2 := c2.mono (fun r z => by unfold Lt5 at z; unfold LRu; omega)
          have hM2 : RM B t n (k1 + 1) R (c + 1) G H Q s1 en1 cs1 v1 A κ2 (si 2 (nI (plc B t k1 + 1)) μ1) := by
            refine ⟨J2, ?_, by omega, r12, by rw [c2.fi (by unfold Lt5; omega)]; exact r5, r4, by rw [gi_si_ne (by decide)]; exact r8, re0, rec, ?_, rH, rQ⟩
            · obtain ⟨d1, d2, d3, d4, d5, d6, d7, d8, d9, d10⟩ := rC
              exact ⟨d1, by rw [gi_si_ne (by decide)]; exact d2, d3, by rw [c2.fi (by unfold Lt5; omega)]; exact d4, by rw [c2.ai (by unfold Lt5; omega)]; exact d5, d6, by rw [c2.fi (by unfold Lt5; omega)]; exact d7, by rw [gi_si_ne (by decide)]; exact d8, d9, d10⟩
            · intro i hi
              rw [c2.ai (by unfold Lt5; omega), c2.ai (by unfold Lt5; omega)]
              exact rr i hi
          obtain ⟨r, r1, κ3, μ3, e3, m3, c3, M3, q3, o3⟩ := ih (c + 1) (k1 + 1) nC nM v1 s1 en1 cs1 κ2 _ (by omega) hM2
          exact ⟨r, r1, κ3, μ3, e3, m3, (c1.trans cr).trans c3, (M10.trans (MF.si (Or.inr (by unfold IRu; omega)) _ _)).trans M3, q3, o3⟩
        · rw [if_neg (fun z => sg z.2)] at ts
          obtain ⟨κ2, e2, f2, c2, m2, g2, i2⟩ := fail_both N Js (w := 0) (by decide)
          have e2' : p_Tokens_fail N (A 2) 0 κ1 = some κ2 := e2
          have hs2 := hs1.chg c2
          rw [e2'] at ts
          have b9 := hB _ hlt
          have m2' : p12_fails N 0 (nI (plc B t k1)) (si 2 (nI (plc B t k1)) μ1) = _ := m2
          have cr : Chg A LRu κ1 κ2 := c2.mono (fun r z => by unfold Lt5 at z; unfold LRu; omega)
          have kp2 : KP R G H Q (flt 0 (plc B t k1) (si 2 (nI (plc B t k1)) μ1)) := by
            unfold flt
            split
            · exact kp1
            · exact kp1
          rw [ts, bo_s, f_15 N (c := 0) hs2 f2, if_neg (show ¬ nI (B (plc B t k1)) = 59 from fun z => sg ((nI_eq (by omega) (by omega)).mp (show nI (B (plc B t k1)) = nI 59 from z)))]
          unfold b12_readsAll_66
          rw [if_neg ne10, se2, bd_s, if_neg en', if_neg (nI_neg1 (by omega)), gi_si, m2', bd_s, m_88, g2, if_neg (nI_ne0 f2.2.1 f2.2.2.1)]
          exact ⟨_, 0, κ2, _, rfl, rfl, c1.trans cr, ((M10.trans (MF.si (Or.inr (by unfold IRu; omega)) _ _)).trans (i2.mf (fun k z => Or.inr (by unfold I234 at z; unfold IRu; omega)))).trans (MF.si (Or.inl rfl) _ _), gi_si _ _ _, Or.inr ⟨_, f2.2.1, f2.2.2.1, rfl, rfl, by rw [gi_si_ne (by decide)]; exact g2, kp2⟩⟩
    · obtain ⟨h1, h2⟩ := rl_bad N (nM := nM + (d + 1)) F0 F1 m1 g1 c1 M1 kp
      exact ⟨nI F, 0, κ1, _, e1, h1, h2⟩
