/-! a book is read -/
theorem c_takeSign (N : Nat) {B : Nat → Nat} {t n k v : Nat} {A : Nat → Nat} {κ : Cz} (hs : Sh κ A) (hB : ∀ i, i < t → B i < 256) (hk : Tks B t n k A κ) (hv : v < 256) (hg : sgB v = true) (n0 : v ≠ 60) (n2 : v ≠ 62) : p_Tokens_takeSign N (A 2) (nI v) κ = if plc B t k < t ∧ B (plc B t k) = v then p_Tokens_goOn N (A 2) κ else p_Tokens_fail N (A 2) 0 κ := by
  have h := c_isSign N hs hB hk hv hg n0 n2
  unfold p_Tokens_takeSign
  simp -implicitDefEqProofs only [hs.tk, ck_1, h, bd_s, ite10, bo_id]
def IB0 (k : Nat) : Prop := k = 0 ∨ k = 2 ∨ k = 3 ∨ k = 4 ∨ k = 8
theorem ib_0 (k : Nat) (h : IB k) : IB0 k := by unfold IB at h; unfold IB0; omega
/-- how the reading of a book ends -/
def BE (A : Nat → Nat) (κ : Cz) (μ : Mz) (r r1 : Int32) (κ1 : Cz) (μ1 : Mz) : Prop := Chg A L214 κ κ1 ∧ MF IB0 JB μ μ1 ∧ gi 0 μ1 = 0 ∧ ((r = 0 ∧ r1 = 1 ∧ fi κ1 (A 7) 0 = 1 ∧ RB κ1 A (ga 5 μ1) ∧ Rqr (ga 5 μ1) ∧ ∃ c h, RV (ga 5 μ1) c h) ∨ ∃ F, 0 < F ∧ F < 2 ^ 31 ∧ r = nI F ∧ r1 = 0 ∧ gi 3 μ1 = nI F)
theorem m_88 (N : Nat) (μ : Mz) : b12_readsAll_88 N μ = some (if gi 3 μ = 0 then 1 else 0, si 0 0 μ) := by
  unfold b12_readsAll_88
  rw [lt_s9, gi_si_ne (by decide)]
  split <;> rfl
theorem bk_all (N : Nat) (hN : 20000 ≤ N) {B : Nat → Nat} {t n : Nat} {A : Nat → Nat} : ∀ (d l k nC nM : Nat) (κ : Cz) (μ : Mz), l + d = 40 → d + 1 < nC → d + 1 < nM → BC B t n k l A κ μ → ∃ (r r1 : Int32) (κ1 : Cz) (μ1 : Mz), b_BookReader_readBook_9 N nC (A 6) (nI l) κ = some (r, κ1) ∧ bd (p12_clauseHere N μ) (fun r7 μ7 => b12_readsAll_35 N nM r7 μ7) = some (r1, μ1) ∧ BE A κ μ r r1 κ1 μ1 := by
  intro d
  induction d with
  | zero =>
    intro l k nC nM κ μ hl hC hM hb
    obtain ⟨nC, rfl⟩ : ∃ q, nC = q + 1 := ⟨nC - 1, by omega⟩
    obtain ⟨nM, rfl⟩ : ∃ q, nM = q + 1 := ⟨nM - 1, by omega⟩
    have hs := hb.1.1
    obtain ⟨r, κ1, μ1, e1, m1, c1, M1, o⟩ := bk_clause N hN (by omega) hb
    have hs1 := hs.chg c1
    rcases o with ⟨-, o, -⟩ | ⟨rfl, F, f1, g1⟩
    · exact absurd o (by omega)
    · refine ⟨nI F, 0, κ1, si 0 0 μ1, ?_, ?_, c1, (M1.mono ib_0 (fun k z => z)).trans (MF.si (by unfold IB0; omega) _ _), gi_si _ _ _, Or.inr ⟨F, f1.2.1, f1.2.2.1, rfl, rfl, by rw [gi_si_ne (by decide)]; exact g1⟩⟩
      · rw [b_BookReader_readBook_9, if_neg (show ¬ (40 : Int32) < nI l from nI_nlt (a := 40) (by omega) (by omega))]
        simp -implicitDefEqProofs only [hs.bR, ck_1, bo_s, e1, hs1.bR, hs1.tk, f1.2.2.2, f_takeSign N hs1 f1, f1.1]
        rw [if_neg (by decide), if_neg (nI_ne0 f1.2.1 f1.2.2.1)]
      · rw [m1, bd_s, b12_readsAll_35, if_pos rfl]
        unfold b12_readsAll_66
        rw [if_pos rfl, m_88, g1, if_neg (nI_ne0 f1.2.1 f1.2.2.1)]
  | succ d ih =>
    intro l k nC nM κ μ hl hC hM hb
    obtain ⟨nC, rfl⟩ : ∃ q, nC = q + 1 := ⟨nC - 1, by omega⟩
    obtain ⟨nM, rfl⟩ : ∃ q, nM = q + 1 := ⟨nM - 1, by omega⟩
    have hs := hb.1.1
    have hA := hs.inj
    obtain ⟨r, κ1, μ1, e1, m1, c1, M1, o⟩ := bk_clause N hN (by omega) hb
    have hs1 := hs.chg c1
    have M10 := M1.mono ib_0 (fun k z => z)
    rcases o with ⟨rfl, o, k1, hb1⟩ | ⟨rfl, F, f1, g1⟩
    · have J1 := hb1.1
      have T1 := J1.2.1
      have hB : ∀ i, i < t → B i < 256 := fun i hi => (J1.2.2.1.2.2 i hi).1
      have k5 : fi κ1 (A 2) 5 = tkK B t (plc B t k1) := T1.2.2.2.2.2.2.1
      have g3 : gi 3 μ1 = 0 := J1.2.2.2.1
      have se := m_seeJ N hN J1
      have Js := J1.see
      have se2 := m_seeJ N hN Js
      rw [si_si] at se2
      have hle := plc_le B t k1
      by_cases en : plc B t k1 = t
      · -- the end
        have gt : Chg A L214 κ1 (sfi (A 7) 0 1 κ1) := Chg.sfi (L := L214) hA κ1 (r := 7) (by unfold L214; omega) _ _
        refine ⟨0, 1, sfi (A 7) 0 1 κ1, si 0 0 (si 2 (nI (plc B t k1)) μ1), ?_, ?_, c1.trans gt, (M10.trans (MF.si (by unfold IB0; omega) _ _)).trans (MF.si (by unfold IB0; omega) _ _), gi_si _ _ _, Or.inl ⟨rfl, rfl, by rw [fi_fi, if_pos ⟨rfl, rfl⟩], ?_, ?_, ?_⟩⟩
        · rw [b_BookReader_readBook_9, if_neg (show ¬ (40 : Int32) < nI l from nI_nlt (a := 40) (by omega) (by omega))]
          simp -implicitDefEqProofs only [hs.bR, ck_1, bo_s, e1, hs1.bR, hs1.tk, k5, lt_s9]
          rw [if_pos (tk_end.mpr (by omega))]
        · rw [m1, bd_s, b12_readsAll_35, if_neg ne10, se, bd_s, if_pos en, if_neg (by decide)]
          unfold b12_readsAll_66
          rw [if_neg ne10, se2, bd_s, if_pos en, if_pos rfl, m_88, gi_si_ne (by decide), g3, if_pos rfl]
        · have hR := hb1.2.1
          obtain ⟨⟨r1, r2, r3, r4, r5, r6⟩, s1, s2, s3, s4, s5, s6⟩ := hR
          have f7 : ∀ i, i ≠ 0 → fi (sfi (A 7) 0 1 κ1) (A 7) i = fi κ1 (A 7) i := fun i hi => by rw [fi_fi, if_neg (fun z => hi z.2)]
          have f11 : ∀ i, fi (sfi (A 7) 0 1 κ1) (A 11) i = fi κ1 (A 11) i := fun i => by rw [fi_fi, if_neg (fun z => hA.ne (show 11 ≠ 7 by decide) z.1)]
          exact ⟨⟨by rw [f7 _ (by decide)]; exact r1, by rw [f7 _ (by decide)]; exact r2, by rw [f7 _ (by decide)]; exact r3, r4, r5, r6⟩, by rw [f11]; exact s1, by rw [f11]; exact s2, by rw [f11]; exact s3, s4, s5, s6⟩
        · rcases hb1.2.2.2.2.2 with z | z
          · exact absurd z.1 (by omega)
          · exact z.2
        · exact hb1.2.2.1
      · have hlt : plc B t k1 < t := by omega
        have nk : ¬ tkK B t (plc B t k1) = 0 := fun z => absurd (tk_end.mp z) (by omega)
        have ts : p_Tokens_takeSign N (A 2) 59 κ1 = _ := c_takeSign N hs1 hB T1 (v := 59) (by decide) (by decide) (by decide) (by decide)
        by_cases sg : B (plc B t k1) = 59
        · -- another clause
          obtain ⟨κ2, e2, J2, c2⟩ := sign_both N J1 hlt (by rw [sg]; decide) (fun z => by have := (orS_b z).1; omega)
          have hs2 := hs1.chg c2
          have k7 : fi κ2 (A 2) 7 = 0 := J2.2.1.2.2.2.2.2.2.2.2
          rw [if_pos ⟨hlt, sg⟩, e2] at ts
          have hb2 : BC B t n (k1 + 1) (l + 1) A κ2 (si 2 (nI (plc B t k1 + 1)) μ1) := ⟨J2, hb1.2.1.chg c2 (fun r z1 z2 z3 => by unfold Lt5 at z3; omega), hb1.2.2.1, by rw [gi_si_ne (by decide)]; exact hb1.2.2.2.1, by rw [gi_si_ne (by decide)]; exact hb1.2.2.2.2.1, hb1.2.2.2.2.2⟩
          obtain ⟨r, r1, κ3, μ3, e3, m3, c3, M3, q3, o3⟩ := ih (l + 1) (k1 + 1) nC nM κ2 _ (by omega) (by omega) (by omega) hb2
          refine ⟨r, r1, κ3, μ3, ?_, ?_, (c1.trans (lt5_14 c2)).trans c3, (M10.trans (MF.si (by unfold IB0; omega) _ _)).trans M3, q3, o3⟩
          · rw [b_BookReader_readBook_9, if_neg (show ¬ (40 : Int32) < nI l from nI_nlt (a := 40) (by omega) (by omega))]
            simp -implicitDefEqProofs only [hs.bR, ck_1, bo_s, e1, hs1.bR, hs1.tk, k5, ts, hs2.bR, hs2.tk, k7, lt_s9, nI_1, e3]
            rw [if_neg nk, if_pos trivial]
          · rw [m1, bd_s, b12_readsAll_35, if_neg ne10, se, bd_s, if_neg en, sg, if_pos (show nI 59 = 59 from rfl), lt_s9, gi_si, nI_1, si_si]
            exact m3
        · rw [if_neg (fun z => sg z.2)] at ts
          obtain ⟨κ2, e2, f2, c2, m2, g2, i2⟩ := fail_both N Js (w := 0) (by decide)
          have e2' : p_Tokens_fail N (A 2) 0 κ1 = some κ2 := e2
          have hs2 := hs1.chg c2
          rw [e2'] at ts
          have b9 := hB _ hlt
          have m2' : p12_fails N 0 (nI (plc B t k1)) (si 2 (nI (plc B t k1)) μ1) = _ := m2
          refine ⟨_, 0, κ2, si 0 0 (flt 0 (plc B t k1) (si 2 (nI (plc B t k1)) μ1)), ?_, ?_, c1.trans (lt5_14 c2), ((M10.trans (MF.si (by unfold IB0; omega) _ _)).trans (i2.mf (fun k z => ib_0 k (i234_b k z)))).trans (MF.si (by unfold IB0; omega) _ _), gi_si _ _ _, Or.inr ⟨_, f2.2.1, f2.2.2.1, rfl, rfl, by rw [gi_si_ne (by decide)]; exact g2⟩⟩
          · rw [b_BookReader_readBook_9, if_neg (show ¬ (40 : Int32) < nI l from nI_nlt (a := 40) (by omega) (by omega))]
            simp -implicitDefEqProofs only [hs.bR, ck_1, bo_s, e1, hs1.bR, hs1.tk, k5, ts, hs2.bR, hs2.tk, f2.1]
            rw [if_neg nk, if_neg (nI_ne0 f2.2.1 f2.2.2.1)]
          · rw [m1, bd_s, b12_readsAll_35, if_neg ne10, se, bd_s, if_neg en, if_neg (show ¬ nI (B (plc B t k1)) = 59 from fun z => sg ((nI_eq (by omega) (by omega)).mp (show nI (B (plc B t k1)) = nI 59 from z)))]
            unfold b12_readsAll_66
            rw [if_neg ne10, se2, bd_s, if_neg en, if_neg (nI_neg1 (by omega)), gi_si, m2', bd_s, m_88, g2, if_neg (nI_ne0 f2.2.1 f2.2.2.1)]
    · refine ⟨nI F, 0, κ1, si 0 0 μ1, ?_, ?_, c1, M10.trans (MF.si (by unfold IB0; omega) _ _), gi_si _ _ _, Or.inr ⟨F, f1.2.1, f1.2.2.1, rfl, rfl, by rw [gi_si_ne (by decide)]; exact g1⟩⟩
      · rw [b_BookReader_readBook_9, if_neg (show ¬ (40 : Int32) < nI l from nI_nlt (a := 40) (by omega) (by omega))]
        simp -implicitDefEqProofs only [hs.bR, ck_1, bo_s, e1, hs1.bR, hs1.tk, f1.2.2.2, f_takeSign N hs1 f1, f1.1]
        rw [if_neg (by decide), if_neg (nI_ne0 f1.2.1 f1.2.2.1)]
      · rw [m1, bd_s, b12_readsAll_35, if_pos rfl]
        unfold b12_readsAll_66
        rw [if_pos rfl, m_88, g1, if_neg (nI_ne0 f1.2.1 f1.2.2.1)]
