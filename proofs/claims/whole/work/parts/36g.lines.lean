/-! the book's clauses: a habit, what hangs -/
theorem bk_habit (N : Nat) (hN : 20000 ≤ N) {B : Nat → Nat} {t n k c h : Nat} {A : Nat → Nat} {κ : Cz} {μ : Mz} (hJ : PJ B t n k A κ μ) (hR : RB κ A (ga 5 μ)) (hq : Rqr (ga 5 μ)) (hv : RV (ga 5 μ) c h) (hh : h < 12) : ∃ (r : Int32) (κ1 : Cz) (μ1 : Mz), p_BookReader_readPuts N (A 6) 0 κ = some κ1 ∧ lt (73 + (2 * (ga 5 μ (2 : Int32).toNatClampNeg))) (fun v2 => bd (p12_cellHere N v2 0 7 μ) (fun r3 μ3 => if r3 = 0 then some (0, μ3) else bd (p12_cellHere N (v2 + 1) 0 7 μ3) (fun r4 μ4 => if r4 = 0 then some (0, μ4) else lt ((ga 5 μ4 (2 : Int32).toNatClampNeg) + 1) (fun v5 => lt (sa 5 (upd (ga 5 μ4) (2 : Int32).toNatClampNeg v5) μ4) (fun μ6 => some (1, μ6)))))) = some (r, μ1) ∧ BO B t n A κ μ r κ1 μ1 := by
  have hs := hJ.1
  have hA := hs.inj
  have nR : ∀ r, 7 ≤ r → r ≤ 14 → ¬ Lt5 r := fun r z1 z2 z3 => by unfold Lt5 at z3; omega
  have n7 : ∀ r, 2 ≤ r → r ≤ 5 → ¬ L714 r := fun r z1 z2 z3 => by unfold L714 at z3; omega
  have h2 : ga 5 μ 2 = nI h := hv.2.2.2.1
  have e73 : (73 : Int32) + 2 * nI h = nI (73 + 2 * h) := by rw [show (73 : Int32) = nI 73 from rfl, show (2 : Int32) = nI 2 from rfl, pk_mul, nI_add]
  rw [lt_s9, k2, h2, e73, nI_1]
  rcases num_both N hN hJ 0 7 with ⟨v, κ1, μ1, hv1, l1, h1, e1, m1, J1, q1, c1, M1⟩ | ⟨F, κ1, μ1, e1, m1, f1, q1, c1, M1⟩
  · have hs1 := J1.1
    have g5 : ga 5 μ1 = ga 5 μ := M1.2.1 5
    have mc := m_cell N (c := 73 + 2 * h) (by omega) m1 q1
    rw [g5] at mc
    have J2 := J1.sa (j := 5) (by decide) (upd (ga 5 μ) (73 + 2 * h) (nI v))
    have M2 : MF I234 JB μ (sa 5 (upd (ga 5 μ) (73 + 2 * h) (nI v)) μ1) := (M1.mf (fun k z => z)).trans (MF.sa (by unfold JB; rfl) _ _)
    rw [mc, bd_s, if_neg ne10]
    rcases num_both N hN J2 0 7 with ⟨w, κ3, μ3, hv3, l3, h3', e3, m3, J3, q3, c3, M3⟩ | ⟨F, κ3, μ3, e3, m3, f3, q3, c3, M3⟩
    · have hs3 := J3.1
      have md := m_cell N (c := 73 + 2 * h + 1) (by omega) m3 q3
      have g53 : ga 5 μ3 = upd (ga 5 μ) (73 + 2 * h) (nI v) := by rw [M3.2.1 5, ga_sa]
      rw [g53] at md
      obtain ⟨κ4, e4, r4, c4⟩ := c_addHabit N (a := nI v) (b := nI w) hs3 hh h2 ((hR.chg c1 nR).chg c3 nR)
      have u4 : upd (upd (ga 5 μ) (73 + 2 * h) (nI v)) (73 + 2 * h + 1) (nI w) 2 = nI h := by rw [upd_at, if_neg (by omega), upd_at, if_neg (by omega)]; exact h2
      refine ⟨1, κ4, _, ?_, (by rw [md, bd_s, if_neg ne10, lt_s9, lt_s9, ga_sa, sa_sa, u4, nI_1]), ?_, ?_, Or.inl ⟨rfl, k + 1 + 1, ?_, ?_, ?_, c, h + 1, ?_⟩⟩
      · unfold p_BookReader_readPuts
        simp -implicitDefEqProofs only [hs.bR, ck_1, bo_s, bd_s, lt_s9, e1, hs1.bR, e3, hs3.bR, e4]
        rw [if_pos trivial]
      · exact ((lt5_14 c1).trans (lt5_14 c3)).trans (l714_14 c4)
      · exact (M2.trans (M3.mf (fun k z => z))).trans (MF.sa (by unfold JB; rfl) _ _)
      · exact (J3.chg c4 n7).sa (by decide) _
      · rw [ga_sa]
        exact r4
      · rw [ga_sa]
        obtain ⟨q0, q, q1', q2, q3'⟩ := hq
        exact ⟨by rw [upd_at, if_neg (by omega), upd_at, if_neg (by omega), upd_at, if_neg (by omega)]; exact q0, q, q1', q2, by rw [upd_at, if_neg (by omega), upd_at, if_neg (by omega), upd_at, if_neg (by omega)]; exact q3'⟩
      · rw [ga_sa]
        refine ⟨hv.1, ?_, by omega, by rw [upd_at, if_pos rfl], ((hv.2.2.2.2.up _ (in8_of h1 hv1)).up _ (in8_of h3' hv3)).up' (j := 2) (by omega) _⟩
        rw [upd_at, if_neg (by omega), upd_at, if_neg (by omega), upd_at, if_neg (by omega)]
        exact hv.2.1
    · have hs3 := hs1.chg c3
      obtain ⟨κ4, e4, r4, c4⟩ := c_addHabit N (a := nI v) (b := -1) hs3 hh h2 ((hR.chg c1 nR).chg c3 nR)
      refine ⟨0, κ4, μ3, ?_, (by rw [m_cell0 N m3, bd_s, if_pos rfl]), ?_, ?_, Or.inr ⟨rfl, F, f3.chg c4 (n7 2 (by omega) (by omega)), q3⟩⟩
      · unfold p_BookReader_readPuts
        simp -implicitDefEqProofs only [hs.bR, ck_1, bo_s, bd_s, lt_s9, e1, hs1.bR, e3, hs3.bR, e4]
        rw [if_pos trivial]
      · exact ((lt5_14 c1).trans (lt5_14 c3)).trans (l714_14 c4)
      · exact M2.trans (M3.mf (fun k z => z))
  · have hs1 := hs.chg c1
    have e2 := f_num N hs1 f1 0 7 (-1)
    obtain ⟨κ4, e4, r4, c4⟩ := c_addHabit N (a := -1) (b := -1) hs1 hh h2 (hR.chg c1 nR)
    refine ⟨0, κ4, μ1, ?_, (by rw [m_cell0 N m1, bd_s, if_pos rfl]), ?_, ?_, Or.inr ⟨rfl, F, f1.chg c4 (n7 2 (by omega) (by omega)), q1⟩⟩
    · unfold p_BookReader_readPuts
      simp -implicitDefEqProofs only [hs.bR, ck_1, bo_s, bd_s, lt_s9, e1, hs1.bR, e2, e4]
      rw [if_pos trivial]
    · exact (lt5_14 c1).trans (l714_14 c4)
    · exact M1.mf (fun k z => z)
theorem lt_of_pred {v c : Nat} (hv : v < 100000) (hc : c ≤ 10) (h : nI v ≤ nI c - 1) : v < c := by
  by_cases z : c = 0
  · subst z
    exact absurd (Int32.not_lt.mpr h) (fun y => y (Int32.lt_of_lt_of_le (show nI 0 - 1 < (0 : Int32) by decide) (Int32.not_lt.mp (nI_pos (show v < 2 ^ 31 by omega)))))
  · have e : nI c - 1 = nI (c - 1) := by rw [show (1 : Int32) = nI 1 from rfl, nI_subN (by omega)]
    rw [e] at h
    have := (nI_leI (show v < 2 ^ 31 by omega) (show c - 1 < 2 ^ 31 by omega)).mp h
    omega
theorem bk_hangs (N : Nat) (hN : 20000 ≤ N) {B : Nat → Nat} {t n k c h : Nat} {A : Nat → Nat} {κ : Cz} {μ : Mz} (hJ : PJ B t n k A κ μ) (hR : RB κ A (ga 5 μ)) (hq : Rqr (ga 5 μ)) (hv : RV (ga 5 μ) c h) : ∃ (r : Int32) (κ1 : Cz) (μ1 : Mz), p_BookReader_readHangs N (A 6) κ = some κ1 ∧ bd (p12_numberHere N 0 ((ga 5 μ (3 : Int32).toNatClampNeg) - 1) μ) (fun r2 μ2 => if r2 = 0 then some (0, μ2) else lt (gi 4 μ2) (fun v3 => bd (p12_see N  μ2) (fun r4 μ4 => lt (gi 2 μ4) (fun v5 => bd (p12_numberHere N 0 ((ga 5 μ4 (3 : Int32).toNatClampNeg) - 1) μ4) (fun r6 μ6 => if r6 = 0 then some (0, μ6) else if v3 = (gi 4 μ6) then bd (p12_fails N 1 v5 μ6) (fun r12 μ12 => ck (b01 r12) (some (r12, μ12))) else lt (63 + v3) (fun v7 => ck (inb v7 98) (lt ((ga 5 μ6 v7.toNatClampNeg) ||| ((1 : Int32) <<< ((gi 4 μ6) &&& 31))) (fun v9 => ck (inb v7 98) (lt (sa 5 (upd (ga 5 μ6) v7.toNatClampNeg v9) μ6) (fun μ11 => some (1, μ11)))))))))))= some (r, μ1) ∧ BO B t n A κ μ r κ1 μ1 := by
  have hs := hJ.1
  have hA := hs.inj
  have ht := hJ.2.2.1.1
  have nR : ∀ r, 7 ≤ r → r ≤ 14 → ¬ Lt5 r := fun r z1 z2 z3 => by unfold Lt5 at z3; omega
  have h3 : ga 5 μ 3 = nI c := hv.2.1
  have hc : c ≤ 10 := hv.1
  have f2 : fi κ (A 7) 2 = nI c := hR.1.2.1.trans h3
  rw [k3, h3]
  rcases num_both N hN hJ 0 (nI c - 1) with ⟨v, κ1, μ1, hv1, l1, h1, e1, m1, J1, q1, c1, M1⟩ | ⟨F, κ1, μ1, e1, m1, f1, q1, c1, M1⟩
  · have hs1 := J1.1
    have g5 : ga 5 μ1 = ga 5 μ := M1.2.1 5
    have R1 := hR.chg c1 nR
    have f21 : fi κ1 (A 7) 2 = nI c := R1.1.2.1.trans h3
    have vc := lt_of_pred hv1 hc h1
    have J1' := J1
    obtain ⟨-, k1, T1, z3, p, hp, p2, psk⟩ := J1'
    have J2 := J1.see
    have se := m_see N hN T1 hp p2
    rw [psk] at se
    rw [m1, bd_s, if_neg ne10, lt_s9, se, bd_s, lt_s9, gi_si, ga_si, g5, h3, q1]
    have M2 : MF I234 JB μ (si 2 (nI (plc B t (k + 1))) μ1) := (M1.mf (fun k z => z)).trans (MF.si (by unfold I234; omega) _ _)
    rcases num_both N hN J2 0 (nI c - 1) with ⟨w, κ3, μ3, hv3, l3, h3', e3, m3, J3, q3, c3, M3⟩ | ⟨F, κ3, μ3, e3, m3, f3, q3, c3, M3⟩
    · have wc := lt_of_pred hv3 hc h3'
      have g53 : ga 5 μ3 = ga 5 μ := (M3.2.1 5).trans g5
      rcases num_ex N hs1 ht k1 (w := v) (by omega) (nI_neg1 (by omega)) e3 with ⟨ev, κ4, e4, f4, c4⟩ | ⟨ev, e4⟩
      · -- the same one
        have hs4 := hs1.chg c4
        have m3' : gi 3 μ3 = 0 := J3.2.2.2.1
        refine ⟨0, κ4, flt 1 (plc B t (k + 1)) μ3, ?_, ?_, (lt5_14 c1).trans (lt5_14 c4), ?_, Or.inr ⟨rfl, _, f4, ?_⟩⟩
        · unfold p_BookReader_readHangs
          simp -implicitDefEqProofs only [hs.bR, ck_1, bo_s, bd_s, lt_s9, f2, e1, hs1.bR, f21, e4, hs4.bR]
          rw [if_neg (nI_pos (by omega)), if_pos (by decide)]
        · rw [m3, bd_s, if_neg ne10, q3, if_pos ev.symm, m_fails N (w := 1) 1 rfl, bd_s]
          rfl
        · refine (M2.trans (M3.mf (fun k z => z))).trans ?_
          unfold flt
          rw [if_pos m3']
          exact MF.si (by unfold I234; omega) _ _
        · unfold flt
          rw [if_pos m3', gi_si]
      · have hs3 := J3.1
        have a14 : ai κ3 (A 14) v = ga 5 μ (63 + v) := ((R1.chg c3 nR).2.2.2.2.2.2) v (by omega)
        have gh : Chg A L714 κ3 (sai (A 14) (upd (ai κ3 (A 14)) v (ga 5 μ (63 + v) ||| (1 : Int32) <<< (nI w &&& 31))) κ3) := Chg.sai (L := L714) hA κ3 (r := 14) (by unfold L714; omega) _
        have e63 : (63 : Int32) + nI v = nI (63 + v) := by rw [show (63 : Int32) = nI 63 from rfl, nI_add]
        refine ⟨1, _, sa 5 (upd (ga 5 μ) (63 + v) (ga 5 μ (63 + v) ||| (1 : Int32) <<< (nI w &&& 31))) μ3, ?_, ?_, ((lt5_14 c1).trans (lt5_14 c3)).trans (l714_14 gh), ?_, Or.inl ⟨rfl, k + 1 + 1, ?_, ?_, ?_, c, h, ?_⟩⟩
        · unfold p_BookReader_readHangs
          simp -implicitDefEqProofs only [hs.bR, ck_1, bo_s, bd_s, lt_s9, f2, e1, hs1.bR, f21, e4, hs3.bR]
          rw [if_neg (nI_pos (by omega)), if_neg (nI_pos (by omega))]
          simp -implicitDefEqProofs only [ck_1, inbT (show v < 10 by omega) (by decide), clN (show v < 2147483648 by omega), a14]
        · rw [m3, bd_s, if_neg ne10, q3, if_neg (fun z => ev z.symm), lt_s9, e63]
          simp -implicitDefEqProofs only [ck_1, inbT (show 63 + v < 98 by omega) (by decide), clN (show 63 + v < 2147483648 by omega), lt_s9, g53]
        · exact (M2.trans (M3.mf (fun k z => z))).trans (MF.sa (by unfold JB; rfl) _ _)
        · exact (J3.chg gh (fun r z1 z2 z3 => by unfold L714 at z3; omega)).sa (by decide) _
        · rw [ga_sa]
          exact (R1.chg c3 nR).hangs hA (by omega) _
        · rw [ga_sa]
          obtain ⟨q0, q, q1', q2, q3'⟩ := hq
          exact ⟨by rw [upd_at, if_neg (by omega)]; exact q0, q, q1', q2, by rw [upd_at, if_neg (by omega)]; exact q3'⟩
        · rw [ga_sa]
          exact hv.up (by omega) (by omega) (by omega) _
    · have hs3 := hs1.chg c3
      have e3' : p_BookReader_readNumber N (A 6) 0 (nI c - 1) (nI v) κ1 = some (-1, κ3) := num_f N hs1 k1 e3
      refine ⟨0, κ3, μ3, ?_, (by rw [m3, bd_s, if_pos rfl]), (lt5_14 c1).trans (lt5_14 c3), M2.trans (M3.mf (fun k z => z)), Or.inr ⟨rfl, F, f3, q3⟩⟩
      unfold p_BookReader_readHangs
      simp -implicitDefEqProofs only [hs.bR, ck_1, bo_s, bd_s, lt_s9, f2, e1, hs1.bR, f21, e3', hs3.bR]
      rw [if_neg (nI_pos (by omega)), if_pos (by decide)]
  · have hs1 := hs.chg c1
    have R1 := hR.chg c1 nR
    have f21 : fi κ1 (A 7) 2 = nI c := R1.1.2.1.trans h3
    have e2 := f_num N hs1 f1 0 (nI c - 1) (-1)
    refine ⟨0, κ1, μ1, ?_, (by rw [m1, bd_s, if_pos rfl]), lt5_14 c1, M1.mf (fun k z => z), Or.inr ⟨rfl, F, f1, q1⟩⟩
    unfold p_BookReader_readHangs
    simp -implicitDefEqProofs only [hs.bR, ck_1, bo_s, bd_s, lt_s9, f2, e1, hs1.bR, f21, e2]
    rw [if_pos (by decide)]
