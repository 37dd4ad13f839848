/-! the book's clauses: what stands behind their words -/
def L214 (r : Nat) : Prop := 2 ≤ r ∧ r ≤ 14
def JB (k : Nat) : Prop := k = 5
def RV (R : Nat → Int32) (c h : Nat) : Prop := c ≤ 10 ∧ R 3 = nI c ∧ h ≤ 12 ∧ R 2 = nI h ∧ BV R
def Rqr (R : Nat → Int32) : Prop := R 0 = 1 ∧ ∃ q, 1 ≤ q ∧ q ≤ 9 ∧ R 1 = nI q
def BJ (B : Nat → Nat) (t n k : Nat) (A : Nat → Nat) (κ : Cz) (μ : Mz) : Prop := PJ B t n k A κ μ ∧ RB κ A (ga 5 μ) ∧ Rqr (ga 5 μ) ∧ ∃ c h, RV (ga 5 μ) c h
def BO (B : Nat → Nat) (t n : Nat) (A : Nat → Nat) (κ : Cz) (μ : Mz) (r : Int32) (κ1 : Cz) (μ1 : Mz) : Prop := Chg A L214 κ κ1 ∧ MF I234 JB μ μ1 ∧ ((r = 1 ∧ ∃ k1, BJ B t n k1 A κ1 μ1) ∨ (r = 0 ∧ ∃ F, Flt F A κ1 ∧ gi 3 μ1 = nI F))
theorem si_at {k : Nat} {v : Int32} {μ : Mz} (h : gi k μ = v) : si k v μ = μ := by
  rw [← h]
  exact si_gi k μ
theorem RV.up {R : Nat → Int32} {c h j : Nat} (g : RV R c h) (h2 : j ≠ 2) (h3 : j ≠ 3) (hj : j < 43 ∨ (63 ≤ j ∧ j < 73) ∨ 97 ≤ j) (x : Int32) : RV (upd R j x) c h := by
  obtain ⟨a1, a2, a3, a4, a5, a6⟩ := g
  have u : ∀ i, i ≠ j → upd R j x i = R i := fun i hi => by rw [upd_at, if_neg hi]
  exact ⟨a1, by rw [u _ (by omega)]; exact a2, a3, by rw [u _ (by omega)]; exact a4, fun k hk => by rw [u _ (by omega), u _ (by omega)]; exact a5 k hk, fun i hi => by rw [u _ (by omega), u _ (by omega)]; exact a6 i hi⟩
theorem BV.up {R : Nat → Int32} (g : BV R) (j : Nat) {x : Int32} (hx : In8 x) : BV (upd R j x) := by
  have u : ∀ i, In8 (R i) → In8 (upd R j x i) := by
    intro i hi
    rw [upd_at]
    split
    · exact hx
    · exact hi
  exact ⟨fun k hk => ⟨u _ (g.1 k hk).1, u _ (g.1 k hk).2⟩, fun i hi => ⟨u _ (g.2 i hi).1, u _ (g.2 i hi).2⟩⟩
theorem BV.up' {R : Nat → Int32} (g : BV R) {j : Nat} (hj : j < 43) (x : Int32) : BV (upd R j x) := by
  have u : ∀ i, i ≠ j → upd R j x i = R i := fun i hi => by rw [upd_at, if_neg hi]
  exact ⟨fun k hk => by rw [u _ (by omega), u _ (by omega)]; exact g.1 k hk, fun i hi => by rw [u _ (by omega), u _ (by omega)]; exact g.2 i hi⟩
theorem in8_of {v : Nat} (h : nI v ≤ 7) (hv : v < 100000) : In8 (nI v) := ⟨v, by have := (nI_leI (by omega) (by omega)).mp (show nI v ≤ nI 7 from h); omega, rfl⟩
theorem lt5_14 {A : Nat → Nat} {κ κ1 : Cz} (g : Chg A Lt5 κ κ1) : Chg A L214 κ κ1 := g.mono (fun r z => by unfold Lt5 at z; unfold L214; omega)
theorem l714_14 {A : Nat → Nat} {κ κ1 : Cz} (g : Chg A L714 κ κ1) : Chg A L214 κ κ1 := g.mono (fun r z => by unfold L714 at z; unfold L214; omega)
theorem bk_pay (N : Nat) (hN : 20000 ≤ N) {B : Nat → Nat} {t n k c h : Nat} {A : Nat → Nat} {κ : Cz} {μ : Mz} (hJ : PJ B t n k A κ μ) (hR : RB κ A (ga 5 μ)) (hv : RV (ga 5 μ) c h) : ∃ (r : Int32) (κ1 : Cz) (μ1 : Mz), p_BookReader_readPay N (A 6) κ = some κ1 ∧ bd (p12_cellHere N 1 1 9 μ) (fun r2 μ2 => if r2 = 0 then some (0, μ2) else bd (p12_cellHere N 97 0 999 μ2) (fun r3 μ3 => if r3 = 0 then some (0, μ3) else lt (sa 5 (upd (ga 5 μ3) (0 : Int32).toNatClampNeg 1) μ3) (fun μ4 => some (1, μ4)))) = some (r, μ1) ∧ BO B t n A κ μ r κ1 μ1 := by
  have hs := hJ.1
  have hA := hs.inj
  have n7 : ∀ {r : Nat}, 2 ≤ r → r ≤ 5 → ¬ (fun q => q = 7 ∨ q = 11) r := fun z1 z2 z3 => by rcases z3 with z | z <;> omega
  have nR : ∀ r, 7 ≤ r → r ≤ 14 → ¬ Lt5 r := fun r z1 z2 z3 => by unfold Lt5 at z3; omega
  have w14 : ∀ {κ κ1 : Cz}, Chg A (fun q => q = 7 ∨ q = 11) κ κ1 → Chg A L214 κ κ1 := fun g => g.mono (fun r z => by unfold L214; omega)
  rcases num_both N hN hJ 1 9 with ⟨v, κ1, μ1, hv1, l1, h1, e1, m1, J1, q1, c1, M1⟩ | ⟨F, κ1, μ1, e1, m1, f1, q1, c1, M1⟩
  · have hs1 := J1.1
    have gq : Chg A (fun q => q = 7 ∨ q = 11) κ1 (sfi (A 7) 1 (nI v) κ1) := Chg.sfi (L := fun q => q = 7 ∨ q = 11) hA κ1 (r := 7) (Or.inl rfl) _ _
    have J2 := (J1.chg gq (fun r z1 z2 => n7 z1 z2)).sa (j := 5) (by decide) (upd (ga 5 μ1) 1 (nI v))
    have hs2 := J2.1
    have R2 : RB (sfi (A 7) 1 (nI v) κ1) A (upd (ga 5 μ) 1 (nI v)) := (hR.chg c1 nR).quarter hA _
    have mc := m_cell N (c := 1) (by decide) m1 q1
    have g5 : ga 5 μ1 = ga 5 μ := M1.2.1 5
    have mc' : p12_cellHere N 1 1 9 μ = some (1, sa 5 (upd (ga 5 μ1) 1 (nI v)) μ1) := mc
    have M2 : MF I234 JB μ (sa 5 (upd (ga 5 μ1) 1 (nI v)) μ1) := (M1.mf (fun k z => z)).trans (MF.sa (by unfold JB; rfl) _ _)
    have C2 := (lt5_14 c1).trans (w14 gq)
    rcases num_both N hN J2 0 999 with ⟨w, κ3, μ3, hv3, l3, h3, e3, m3, J3, q3, c3, M3⟩ | ⟨F, κ3, μ3, e3, m3, f3, q3, c3, M3⟩
    · have hs3 := J3.1
      have gp : Chg A (fun q => q = 7 ∨ q = 11) κ3 (sfi (A 11) 3 (nI w) κ3) := Chg.sfi (L := fun q => q = 7 ∨ q = 11) hA κ3 (r := 11) (Or.inr rfl) _ _
      have md : p12_cellHere N 97 0 999 (sa 5 (upd (ga 5 μ1) 1 (nI v)) μ1) = some (1, sa 5 (upd (ga 5 μ3) 97 (nI w)) μ3) := m_cell N (c := 97) (by decide) m3 q3
      have g53 : ga 5 μ3 = upd (ga 5 μ) 1 (nI v) := by rw [M3.2.1 5, ga_sa, g5]
      refine ⟨1, sfi (A 11) 3 (nI w) κ3, sa 5 (upd (upd (ga 5 μ3) 97 (nI w)) 0 1) μ3, ?_, ?_, ?_, ?_, Or.inl ⟨rfl, k + 1 + 1, ?_, ?_, ?_, c, h, ?_⟩⟩
      · unfold p_BookReader_readPay
        simp -implicitDefEqProofs only [hs.bR, ck_1, bo_s, bd_s, lt_s9, e1, hs1.bR, hs2.bR, e3, hs3.bR]
      · rw [mc', bd_s, if_neg ne10, md, bd_s, if_neg ne10, lt_s9, ga_sa, sa_sa, k0]
      · exact (C2.trans (lt5_14 c3)).trans (w14 gp)
      · exact (M2.trans (M3.mf (fun k z => z))).trans (MF.sa (by unfold JB; rfl) _ _)
      · exact (J3.chg gp (fun r z1 z2 => n7 z1 z2)).sa (by decide) _
      · rw [ga_sa, g53]
        exact ((R2.chg c3 nR).purse hA _).upd0 _
      · rw [ga_sa, g53]
        have hb := (nI_leI (show 1 < 2 ^ 31 by omega) (show v < 2 ^ 31 by omega)).mp (show nI 1 ≤ nI v from l1)
        have hc := (nI_leI (show v < 2 ^ 31 by omega) (show 9 < 2 ^ 31 by omega)).mp (show nI v ≤ nI 9 from h1)
        exact ⟨by rw [upd_at, if_pos rfl], v, hb, hc, by rw [upd_at, if_neg (by decide), upd_at, if_neg (by decide), upd_at, if_pos rfl]⟩
      · rw [ga_sa, g53]
        exact ((hv.up (by decide) (by decide) (by omega) _).up (by decide) (by decide) (by omega) _).up (by decide) (by decide) (by omega) _
    · have hs3 := hs2.chg c3
      have gp : Chg A (fun q => q = 7 ∨ q = 11) κ3 (sfi (A 11) 3 (-1) κ3) := Chg.sfi (L := fun q => q = 7 ∨ q = 11) hA κ3 (r := 11) (Or.inr rfl) _ _
      have md : p12_cellHere N 97 0 999 (sa 5 (upd (ga 5 μ1) 1 (nI v)) μ1) = some (0, μ3) := m_cell0 N m3
      refine ⟨0, sfi (A 11) 3 (-1) κ3, μ3, ?_, ?_, ?_, ?_, Or.inr ⟨rfl, F, f3.chg gp (n7 (by omega) (by omega)), q3⟩⟩
      · unfold p_BookReader_readPay
        simp -implicitDefEqProofs only [hs.bR, ck_1, bo_s, bd_s, lt_s9, e1, hs1.bR, hs2.bR, e3, hs3.bR]
      · rw [mc', bd_s, if_neg ne10, md, bd_s, if_pos rfl]
      · exact (C2.trans (lt5_14 c3)).trans (w14 gp)
      · exact M2.trans (M3.mf (fun k z => z))
  · have hs1 := hs.chg c1
    have gq : Chg A (fun q => q = 7 ∨ q = 11) κ1 (sfi (A 7) 1 (-1) κ1) := Chg.sfi (L := fun q => q = 7 ∨ q = 11) hA κ1 (r := 7) (Or.inl rfl) _ _
    have hs2 := hs1.chg gq
    have f2 := f1.chg gq (n7 (by omega) (by omega))
    have e2 := f_num N hs2 f2 0 999 (-1)
    have gp : Chg A (fun q => q = 7 ∨ q = 11) (sfi (A 7) 1 (-1) κ1) (sfi (A 11) 3 (-1) (sfi (A 7) 1 (-1) κ1)) := Chg.sfi (L := fun q => q = 7 ∨ q = 11) hA _ (r := 11) (Or.inr rfl) _ _
    have mc' : p12_cellHere N 1 1 9 μ = some (0, μ1) := m_cell0 N m1
    refine ⟨0, sfi (A 11) 3 (-1) (sfi (A 7) 1 (-1) κ1), μ1, ?_, ?_, ?_, ?_, Or.inr ⟨rfl, F, f2.chg gp (n7 (by omega) (by omega)), q1⟩⟩
    · unfold p_BookReader_readPay
      simp -implicitDefEqProofs only [hs.bR, ck_1, bo_s, bd_s, lt_s9, e1, hs1.bR, hs2.bR, e2]
    · rw [mc', bd_s, if_pos rfl]
    · exact ((lt5_14 c1).trans (w14 gq)).trans (w14 gp)
    · exact M1.mf (fun k z => z)
theorem bk_letter (N : Nat) (hN : 20000 ≤ N) {B : Nat → Nat} {t n k c h : Nat} {A : Nat → Nat} {κ : Cz} {μ : Mz} (hJ : PJ B t n k A κ μ) (hR : RB κ A (ga 5 μ)) (hq : Rqr (ga 5 μ)) (hv : RV (ga 5 μ) c h) (hc : c < 10) : ∃ (r : Int32) (κ1 : Cz) (μ1 : Mz), p_BookReader_readPuts N (A 6) 1 κ = some κ1 ∧ bd (p12_cellHere N (53 + (ga 5 μ (3 : Int32).toNatClampNeg)) 0 7 μ) (fun r2 μ2 => if r2 = 0 then some (0, μ2) else bd (p12_cellHere N (43 + (ga 5 μ2 (3 : Int32).toNatClampNeg)) 0 7 μ2) (fun r3 μ3 => if r3 = 0 then some (0, μ3) else lt ((ga 5 μ3 (3 : Int32).toNatClampNeg) + 1) (fun v4 => lt (sa 5 (upd (ga 5 μ3) (3 : Int32).toNatClampNeg v4) μ3) (fun μ5 => some (1, μ5))))) = some (r, μ1) ∧ BO B t n A κ μ r κ1 μ1 := by
  have hs := hJ.1
  have hA := hs.inj
  have nR : ∀ r, 7 ≤ r → r ≤ 14 → ¬ Lt5 r := fun r z1 z2 z3 => by unfold Lt5 at z3; omega
  have n7 : ∀ r, 2 ≤ r → r ≤ 5 → ¬ L714 r := fun r z1 z2 z3 => by unfold L714 at z3; omega
  have h3 : ga 5 μ 3 = nI c := hv.2.1
  have e53 : (53 : Int32) + nI c = nI (53 + c) := by rw [show (53 : Int32) = nI 53 from rfl, nI_add]
  have e43 : (43 : Int32) + nI c = nI (43 + c) := by rw [show (43 : Int32) = nI 43 from rfl, nI_add]
  rw [k3, h3, e53]
  rcases num_both N hN hJ 0 7 with ⟨v, κ1, μ1, hv1, l1, h1, e1, m1, J1, q1, c1, M1⟩ | ⟨F, κ1, μ1, e1, m1, f1, q1, c1, M1⟩
  · have hs1 := J1.1
    have g5 : ga 5 μ1 = ga 5 μ := M1.2.1 5
    have mc := m_cell N (c := 53 + c) (by omega) m1 q1
    rw [g5] at mc
    have J2 := J1.sa (j := 5) (by decide) (upd (ga 5 μ) (53 + c) (nI v))
    have M2 : MF I234 JB μ (sa 5 (upd (ga 5 μ) (53 + c) (nI v)) μ1) := (M1.mf (fun k z => z)).trans (MF.sa (by unfold JB; rfl) _ _)
    have u3 : upd (ga 5 μ) (53 + c) (nI v) 3 = nI c := by rw [upd_at, if_neg (by omega)]; exact h3
    rw [mc, bd_s, if_neg ne10, ga_sa, u3, e43]
    rcases num_both N hN J2 0 7 with ⟨w, κ3, μ3, hv3, l3, h3', e3, m3, J3, q3, c3, M3⟩ | ⟨F, κ3, μ3, e3, m3, f3, q3, c3, M3⟩
    · have hs3 := J3.1
      have md := m_cell N (c := 43 + c) (by omega) m3 q3
      have g53 : ga 5 μ3 = upd (ga 5 μ) (53 + c) (nI v) := by rw [M3.2.1 5, ga_sa]
      rw [g53] at md
      obtain ⟨κ4, e4, r4, c4⟩ := c_addLetter N (a := nI v) (b := nI w) hs3 hc h3 ((hR.chg c1 nR).chg c3 nR)
      have u4 : upd (upd (ga 5 μ) (53 + c) (nI v)) (43 + c) (nI w) 3 = nI c := by rw [upd_at, if_neg (by omega)]; exact u3
      refine ⟨1, κ4, _, ?_, (by rw [md, bd_s, if_neg ne10, lt_s9, lt_s9, ga_sa, sa_sa, u4, nI_1]), ?_, ?_, Or.inl ⟨rfl, k + 1 + 1, ?_, ?_, ?_, c + 1, h, ?_⟩⟩
      · unfold p_BookReader_readPuts
        simp -implicitDefEqProofs only [hs.bR, ck_1, bo_s, bd_s, lt_s9, e1, hs1.bR, e3, hs3.bR, e4]
        rw [if_neg ne10]
      · exact ((lt5_14 c1).trans (lt5_14 c3)).trans (l714_14 c4)
      · exact (M2.trans (M3.mf (fun k z => z))).trans (MF.sa (by unfold JB; rfl) _ _)
      · exact (J3.chg c4 n7).sa (by decide) _
      · rw [ga_sa]
        exact r4
      · rw [ga_sa]
        obtain ⟨q0, q, q1', q2, q3'⟩ := hq
        exact ⟨by rw [upd_at, if_neg (by omega), upd_at, if_neg (by omega), upd_at, if_neg (by omega)]; exact q0, q, q1', q2, by rw [upd_at, if_neg (by omega), upd_at, if_neg (by omega), upd_at, if_neg (by omega)]; exact q3'⟩
      · rw [ga_sa]
        refine ⟨by omega, by rw [upd_at, if_pos rfl], hv.2.2.1, ?_, ((hv.2.2.2.2.up _ (in8_of h1 hv1)).up _ (in8_of h3' hv3)).up' (j := 3) (by omega) _⟩
        rw [upd_at, if_neg (by omega), upd_at, if_neg (by omega), upd_at, if_neg (by omega)]
        exact hv.2.2.2.1
    · have hs3 := hs1.chg c3
      obtain ⟨κ4, e4, r4, c4⟩ := c_addLetter N (a := nI v) (b := -1) hs3 hc h3 ((hR.chg c1 nR).chg c3 nR)
      refine ⟨0, κ4, μ3, ?_, (by rw [m_cell0 N m3, bd_s, if_pos rfl]), ?_, ?_, Or.inr ⟨rfl, F, f3.chg c4 (n7 2 (by omega) (by omega)), q3⟩⟩
      · unfold p_BookReader_readPuts
        simp -implicitDefEqProofs only [hs.bR, ck_1, bo_s, bd_s, lt_s9, e1, hs1.bR, e3, hs3.bR, e4]
        rw [if_neg ne10]
      · exact ((lt5_14 c1).trans (lt5_14 c3)).trans (l714_14 c4)
      · exact M2.trans (M3.mf (fun k z => z))
  · have hs1 := hs.chg c1
    have e2 := f_num N hs1 f1 0 7 (-1)
    obtain ⟨κ4, e4, r4, c4⟩ := c_addLetter N (a := -1) (b := -1) hs1 hc h3 (hR.chg c1 nR)
    refine ⟨0, κ4, μ1, ?_, (by rw [m_cell0 N m1, bd_s, if_pos rfl]), ?_, ?_, Or.inr ⟨rfl, F, f1.chg c4 (n7 2 (by omega) (by omega)), q1⟩⟩
    · unfold p_BookReader_readPuts
      simp -implicitDefEqProofs only [hs.bR, ck_1, bo_s, bd_s, lt_s9, e1, hs1.bR, e2, e4]
      rw [if_neg ne10]
    · exact (lt5_14 c1).trans (l714_14 c4)
    · exact M1.mf (fun k z => z)
