/-! leastPurse: the reference's loop, the class's two ways -/
theorem m_lpEnd (N : Nat) {g p k : Nat} (x1 : Int32) (hp : p ≤ 1000) (hk : k < 2 ^ 31) (μ : Mz) : b12_leastPurse_30 N (g + 1) x1 (nI k) (nI p) μ = some (nI k, μ) := by
  rw [b12_leastPurse_30]
  split
  · rfl
  · rw [if_pos (Int32.not_lt.mp (nI_pos hk))]
def LI (S0 : Nat → Int32) (μ0 μ : Mz) : Prop := ga 7 μ = S0 ∧ Kp μ S0 ∧ Mq μ0 μ
theorem m_lpBack (N : Nat) (hN : 20000 ≤ N) {S0 : Nat → Int32} {μ0 μ μ1 : Mz} {T : Nat → Int32} (hI : LI S0 μ0 μ) (m : MCh Ip Rp (sa 7 T μ) μ1) (sb : Sb S0 (ga 7 μ1)) : p12_laysBack N μ1 = some (sa 7 S0 μ1) ∧ LI S0 μ0 (sa 7 S0 μ1) := by
  obtain ⟨h7, hK, mq⟩ := hI
  have h9 : ga 9 μ1 = ga 9 μ := (m.2.1 9 (by unfold Rp; omega)).trans (ga_sa_ne (by decide) _ _)
  have hK1 : Kp μ1 S0 := fun k hk => by rw [h9]; exact hK k hk
  exact ⟨m_back N (by omega) hK1 sb, ga_sa _ _ _, fun k hk => by rw [ga_sa_ne (by decide)]; exact hK1 k hk, ((mq.trans (Mq.row (Or.inl rfl) _)).trans m.mq).trans (Mq.row (Or.inl rfl) _)⟩
theorem m_lp (N : Nat) (hN : 20000 ≤ N) {S0 : Nat → Int32} {n C : Nat} {μ0 : Mz} (H : ∀ p μ, p ≤ 999 → LI S0 μ0 μ → ∃ μ1, p12_isAllPaid N (nI n) (sa 7 (pu S0 (nI p)) μ) = some (if C ≤ p then 1 else 0, μ1) ∧ MCh Ip Rp (sa 7 (pu S0 (nI p)) μ) μ1 ∧ Sb S0 (ga 7 μ1)) : ∀ (d p f : Nat) (μ : Mz), p + d = min C 1000 → d + 1 < f → LI S0 μ0 μ → ∃ μ1, b12_leastPurse_30 N f (nI n) (-2) (nI p) μ = some (if C ≤ 999 then nI C else -2, μ1) ∧ LI S0 μ0 μ1 := by
  intro d
  induction d with
  | zero =>
    intro p f μ hp hf hI
    obtain ⟨f, rfl⟩ : ∃ q, f = q + 2 := ⟨f - 2, by omega⟩
    rw [b12_leastPurse_30]
    by_cases hC : C ≤ 999
    · have e : p = C := by omega
      subst e
      obtain ⟨μ1, e1, m1, sb1⟩ := H p μ hC hI
      obtain ⟨e2, I2⟩ := m_lpBack N hN hI m1 sb1
      rw [if_pos (Nat.le_refl p)] at e1
      rw [if_neg (show ¬ (999 : Int32) < nI p from nI_nlt (a := 999) hC (by omega)), if_neg (show ¬ (0 : Int32) ≤ -2 by decide), lt_s9, hI.1, show upd S0 (11 : Int32).toNatClampNeg (nI p) = pu S0 (nI p) from rfl, e1, bd_s, if_neg ne10, e2, bo_s, lt_s9, nI_1, m_lpEnd N _ (by omega) (by omega), if_pos hC]
      exact ⟨_, rfl, I2⟩
    · have e : p = 1000 := by omega
      subst e
      rw [if_pos (by decide), if_neg hC]
      exact ⟨μ, rfl, hI⟩
  | succ d ih =>
    intro p f μ hp hf hI
    obtain ⟨f, rfl⟩ : ∃ q, f = q + 1 := ⟨f - 1, by omega⟩
    rw [b12_leastPurse_30]
    obtain ⟨μ1, e1, m1, sb1⟩ := H p μ (by omega) hI
    obtain ⟨e2, I2⟩ := m_lpBack N hN hI m1 sb1
    rw [if_neg (by omega)] at e1
    rw [if_neg (show ¬ (999 : Int32) < nI p from nI_nlt (a := 999) (by omega) (by omega)), if_neg (show ¬ (0 : Int32) ≤ -2 by decide), lt_s9, hI.1, show upd S0 (11 : Int32).toNatClampNeg (nI p) = pu S0 (nI p) from rfl, e1, bd_s, if_pos rfl, e2, bo_s, lt_s9, nI_1]
    exact ih (p + 1) f _ (by omega) (by omega) I2
/-- the class's short way, where the choice doesn't ask for PURSE -/
theorem c_cost (N : Nat) (hN : 20000 ≤ N) {A : Nat → Nat} {κ : Cz} {μ : Mz} {c h e Q n : Nat} (hn : n ≤ 40) (he : e ≤ 999) (hT : ∀ μ1, Mq μ μ1 → ga 7 μ1 = ga 7 μ → TR A κ μ1 c h e) (h13 : gi 13 μ = -1) (hq : ga 7 μ 1 = nI Q) (hQ : Q ≤ 9) (hnp : ∀ r, fr κ (A 40) 2 = some (A (300 + 5 * r)) → NoP κ A r) : ∃ (C : Nat) (κ1 : Cz), p_ErrataRow_costOf N (A 0) (nI n) κ = some (if C ≤ 999 then nI C else -2, κ1) ∧ Ch A Dc κ κ1 ∧ ∀ p μ1, p ≤ 999 → LI (ga 7 μ) μ μ1 → ∃ μ2, p12_isAllPaid N (nI n) (sa 7 (pu (ga 7 μ) (nI p)) μ1) = some (if C ≤ p then 1 else 0, μ2) ∧ MCh Ip Rp (sa 7 (pu (ga 7 μ) (nI p)) μ1) μ2 ∧ Sb (ga 7 μ) (ga 7 μ2) := by
  obtain ⟨hs, hB, hS, hO, hF, hl, hl0⟩ := hT μ (Mq.refl μ) rfl
  have hA := hs.inj
  have g4 : Chg A (fun q => q = 66) κ (sfi (A 66) 3 3600 κ) := Chg.sfi (L := fun q => q = 66) hA κ (r := 66) rfl _ _
  have hs4 := hs.chg g4
  have hS4 : St (sfi (A 66) 3 3600 κ) A 66 (pu (ga 7 μ) (nI 3600)) := by
    refine ⟨?_, ?_, ?_, fun i hi => ?_, fun i hi => ?_, fun i hi => ?_⟩
    · rw [fi_fi, if_neg (by simp), pu_o _ _ (by omega)]; exact hS.1
    · rw [fi_fi, if_pos ⟨rfl, rfl⟩, pu_11]; rfl
    · rw [fi_fi, if_neg (by simp), pu_o _ _ (by omega)]; exact hS.2.2.1
    · rw [ai_fi, pu_o _ _ (by omega)]; exact hS.2.2.2.1 i hi
    · rw [ai_fi, pu_o _ _ (by omega)]; exact hS.2.2.2.2.1 i hi
    · rw [ai_fi, pu_o _ _ (by omega)]; exact hS.2.2.2.2.2 i hi
  have hB4 : Bk (sfi (A 66) 3 3600 κ) A 21 (pu (ga 7 μ) (nI 3600)) := (hB.chg g4 (fun q z1 z2 z3 => by omega)).congr (fun j hj => (pu_o _ _ (by omega)).symm)
  have l4 : fi (sfi (A 66) 3 3600 κ) (A 40) 3 = -1 := by rw [g4.fi (by omega), hl]; exact h13
  have hnp4 : ∀ r, fr (sfi (A 66) 3 3600 κ) (A 40) 2 = some (A (300 + 5 * r)) → NoP (sfi (A 66) 3 3600 κ) A r := fun r z => (hnp r z).chg g4 (fun q z1 z2 z3 => by omega)
  generalize hκ4 : sfi (A 66) 3 3600 κ = κ4 at g4 hs4 hS4 hB4 l4 hnp4
  have run : ∀ p μ1, p ≤ 999 → LI (ga 7 μ) μ μ1 → ∃ (κ1 : Cz) (a1 : Nat) (μ2 : Mz), b_ErrataRow_goOn_2 N N (A 0) (nI n) (nI 0) κ4 = some κ1 ∧ fi κ1 (A 66) 3 = nI a1 ∧ a1 ≤ 3600 ∧ Chg A (Lp 66) κ4 κ1 ∧ b12_isAllPaid_2 N N (nI n) (nI 0) (sa 7 (pu (ga 7 μ) (nI p)) μ1) = some (if 3600 - a1 ≤ p then 1 else 0, μ2) ∧ MCh Ip Rp (sa 7 (pu (ga 7 μ) (nI p)) μ1) μ2 ∧ Sb (pu (ga 7 μ) (nI 3600)) (ga 7 μ2) := by
    intro p μ1 hp hI
    obtain ⟨i7, iK, im⟩ := hI
    refine run7 N hN (c := c) (h := h) (Q := Q) (n := n) (by omega) hQ n 0 N N κ4 (sa 7 (pu (ga 7 μ) (nI p)) μ1) (pu (ga 7 μ) (nI 3600)) 3600 p e (by omega) (by omega) (by omega) hs4 hB4 hS4 (OkS_pu _ hO) (by omega) ?_ hnp4 ?_ l4 (im.i13.trans h13) (pu_11 _ _) (by rw [pu_o _ _ (by omega)]; exact hq) (by omega) (by omega) (by omega)
    · exact hF.chg g4 (fun q z1 z2 z3 => by omega) im.i11 ((ga_sa_ne (by decide) _ _).trans im.a1) ((ga_sa_ne (by decide) _ _).trans im.a3) ((ga_sa_ne (by decide) _ _).trans im.a4)
    · rw [ga_sa]
      exact (pu_upd (ga 7 μ) (nI p) (nI 3600)).symm
  -- the run of the class, once
  have I0 : LI (ga 7 μ) μ (sa 9 (kpF (ga 7 μ) (ga 9 μ) 33) μ) := ⟨ga_sa_ne (by decide) _ _, fun k hk => by rw [ga_sa]; unfold kpF; rw [if_pos hk], Mq.row (by unfold Rq; omega) _⟩
  obtain ⟨κ5, a1, -, e5, f5, l5, g5, -, -, -⟩ := run 0 _ (by omega) I0
  refine ⟨3600 - a1, κ5, ?_, ?_, ?_⟩
  · unfold p_ErrataRow_costOf
    have e5' : p_ErrataRow_goOn N (A 0) (nI n) κ4 = some κ5 := e5
    have hs5 := hs4.chg g5
    simp -implicitDefEqProofs only [hs.top, hs.tr, ck_1, bo_s, lt_s9, hκ4, e5', hs5.top, hs5.tr, f5]
    rw [show (3600 : Int32) - nI a1 = nI (3600 - a1) from pk_sub (a := 3600) l5]
    by_cases z : 3600 - a1 ≤ 999
    · rw [if_neg (show ¬ (999 : Int32) < nI (3600 - a1) from nI_nlt (a := 999) z (by omega)), if_pos z]
    · rw [if_pos (show (999 : Int32) < nI (3600 - a1) from (nI_ltI (a := 999) (by omega) (by omega)).mpr (by omega)), if_neg z]
  · exact (g4.ch.mono (fun q z => by unfold Dc; omega)).trans (g5.ch.mono Dc_Lp)
  · intro p μ1 hp hI
    obtain ⟨κ6, a2, μ2, e6, f6, l6, -, e7, m7, sb7⟩ := run p μ1 hp hI
    rw [e5] at e6
    have ek := Option.some.inj e6
    subst ek
    have ea : a2 = a1 := (nI_eq (by omega) (by omega)).mp (f6.symm.trans f5)
    subst ea
    exact ⟨μ2, e7, m7, (Sb_pu _ _).trans sb7⟩
theorem TR.pu {A : Nat → Nat} {κ : Cz} {μ : Mz} {c h e : Nat} (hT : TR A κ μ c h e) (v : Int32) : TR A (sfi (A 66) 3 v κ) (sa 7 (pu (ga 7 μ) v) μ) c h e := by
  obtain ⟨hs, hB, hS, hO, hF, hl, hl0⟩ := hT
  have g4 : Chg A (fun q => q = 66) κ (sfi (A 66) 3 v κ) := Chg.sfi (L := fun q => q = 66) hs.inj κ (r := 66) rfl _ _
  refine ⟨hs.chg g4, ?_, ?_, ?_, ?_, ?_, hl0⟩
  · rw [ga_sa]; exact (hB.chg g4 (fun q z1 z2 z3 => by omega)).congr (fun j hj => (pu_o _ _ (by omega)).symm)
  · rw [ga_sa]
    refine ⟨?_, ?_, ?_, fun i hi => ?_, fun i hi => ?_, fun i hi => ?_⟩
    · rw [fi_fi, if_neg (by simp), pu_o _ _ (by omega)]; exact hS.1
    · rw [fi_fi, if_pos ⟨rfl, rfl⟩, pu_11]
    · rw [fi_fi, if_neg (by simp), pu_o _ _ (by omega)]; exact hS.2.2.1
    · rw [ai_fi, pu_o _ _ (by omega)]; exact hS.2.2.2.1 i hi
    · rw [ai_fi, pu_o _ _ (by omega)]; exact hS.2.2.2.2.1 i hi
    · rw [ai_fi, pu_o _ _ (by omega)]; exact hS.2.2.2.2.2 i hi
  · rw [ga_sa]; exact OkS_pu _ hO
  · exact hF.chg g4 (fun q z1 z2 z3 => by omega) rfl (ga_sa_ne (by decide) _ _) (ga_sa_ne (by decide) _ _) (ga_sa_ne (by decide) _ _)
  · rw [g4.fi (by omega)]; exact hl
/-- the long way: both try a purse alike -/
theorem en_both (N : Nat) (hN : 20000 ≤ N) {A : Nat → Nat} {κ : Cz} {μ : Mz} {c h e q nn n : Nat} (hn : n ≤ 40) (hR : RelA A κ μ) (hO : OkV (ga 7 μ) c h e q nn) (hb : ga 7 μ 0 = 1) (p : Int32) : ∃ (r : Int32) (κ1 : Cz) (μ1 : Mz), p_ErrataRow_isEnough N (A 0) p (nI n) κ = some (r, κ1) ∧ p12_isAllPaid N (nI n) (sa 7 (pu (ga 7 μ) p) μ) = some (r, μ1) ∧ (r = 0 ∨ r = 1) ∧ Ch A Dc κ κ1 ∧ MCh Ip Rp (sa 7 (pu (ga 7 μ) p) μ) μ1 ∧ Sb (ga 7 μ) (ga 7 μ1) := by
  have hs := hR.sh
  have he : e ≤ 999 := hO.2.2.2.2.1
  obtain ⟨κ1, e1, g1, t1⟩ := q_open N hR hO hb
  have hT1 := (t1 μ (Mq.refl μ) rfl).pu p
  have hs1 := (t1 μ (Mq.refl μ) rfl).1
  have g2 : Ch A Dc κ1 (sfi (A 66) 3 p κ1) := (Chg.sfi (L := Dc) hs1.inj κ1 (r := 66) (by unfold Dc; omega) _ _).ch
  have L := upL n (fun f i => ∀ (κ : Cz) (μ : Mz), TR A κ μ c h (e + i) → ∃ (r : Int32) (κ1 : Cz) (μ1 : Mz), b_ErrataRow_isEnough_21 N f (A 0) (nI n) (nI i) κ = some (r, κ1) ∧ b12_isAllPaid_2 N f (nI n) (nI i) μ = some (r, μ1) ∧ (r = 0 ∨ r = 1) ∧ Chg A (Lp 66) κ κ1 ∧ MCh Ip Rp μ μ1 ∧ Sb (ga 7 μ) (ga 7 μ1)) (by
    intro f κ μ hT
    refine ⟨1, κ, μ, ?_, ?_, Or.inr rfl, Chg.refl _ _ _, MCh.refl _ _ _, Sb.refl _⟩
    · rw [b_ErrataRow_isEnough_21, if_pos (nI_le (Nat.le_refl n) (by omega))]
    · rw [b12_isAllPaid_2, if_pos (nI_le (Nat.le_refl n) (by omega))]) (by
    intro f i hi ih κ μ hT
    have hs := hT.1
    obtain ⟨m, κ1, μ1, e1, e2, hT1, g1, mc1, sb1, w5, -⟩ := tr_pass N (by omega) hT (by omega)
    have hs1 := hT1.1
    rw [b_ErrataRow_isEnough_21, b12_isAllPaid_2, if_neg (nI_ge hi (by omega)), if_neg (nI_ge hi (by omega)), e2, bd_s]
    simp -implicitDefEqProofs only [hs.top, hs.pr, ck_1, bo_s, e1, bd_s, hs1.top, hs1.pr, w5, lt_s9, nI_1]
    by_cases z : gi 14 μ1 = 0
    · rw [if_pos z, if_pos z]
      obtain ⟨r, κ2, μ2, e3, e4, r01, g3, mc3, sb3⟩ := ih κ1 μ1 hT1
      exact ⟨r, κ2, μ2, e3, e4, r01, g1.trans g3, mc1.trans mc3, sb1.trans sb3⟩
    · rw [if_neg z, if_neg z]
      exact ⟨0, κ1, μ1, rfl, rfl, Or.inl rfl, g1, mc1, sb1⟩) N 0 (by omega) (by omega) _ _ hT1
  obtain ⟨r, κ2, μ2, e3, e4, r01, g3, mc3, sb3⟩ := L
  refine ⟨r, κ2, μ2, ?_, e4, r01, (g1.trans g2).trans (g3.ch.mono Dc_Lp), mc3, ?_⟩
  · unfold p_ErrataRow_isEnough
    simp -implicitDefEqProofs only [hs.top, hs.w20, ck_1, bo_s, e1, hs1.top, hs1.tr, lt_s9]
    exact e3
  · rw [ga_sa] at sb3
    exact (Sb_pu _ _).trans sb3
theorem lp_both (N : Nat) (hN : 20000 ≤ N) {A : Nat → Nat} {c h e q nn n : Nat} {S0 : Nat → Int32} {μ0 : Mz} (hn : n ≤ 40) (hO : OkV S0 c h e q nn) (hb : S0 0 = 1) : ∀ (d p f g : Nat) (κ : Cz) (μ : Mz), p + d = 1000 → d < f → d + 1 < g → RelA A κ μ → LI S0 μ0 μ → ∃ (r : Int32) (κ1 : Cz) (μ1 : Mz), b_ErrataRow_leastPurse_69 N f (A 0) (nI n) (nI p) κ = some (r, κ1) ∧ b12_leastPurse_30 N g (nI n) (-2) (nI p) μ = some (r, μ1) ∧ Rel (A 0) κ1 μ1 := by
  intro d
  induction d with
  | zero =>
    intro p f g κ μ hp hf hg hR hI
    obtain ⟨f, rfl⟩ : ∃ q, f = q + 1 := ⟨f - 1, by omega⟩
    obtain ⟨g, rfl⟩ : ∃ q, g = q + 1 := ⟨g - 1, by omega⟩
    have e1 : p = 1000 := by omega
    subst e1
    rw [b_ErrataRow_leastPurse_69, b12_leastPurse_30, if_pos (by decide), if_pos (by decide)]
    exact ⟨_, κ, μ, rfl, rfl, A, rfl, hR⟩
  | succ d ih =>
    intro p f g κ μ hp hf hg hR hI
    obtain ⟨f, rfl⟩ : ∃ q, f = q + 1 := ⟨f - 1, by omega⟩
    obtain ⟨g, rfl⟩ : ∃ q, g = q + 2 := ⟨g - 2, by omega⟩
    have hs := hR.sh
    obtain ⟨r, κ1, μ1, e1, e2, r01, g1, m1, sb1⟩ := en_both N hN hn hR (by rw [hI.1]; exact hO) (by rw [hI.1]; exact hb) (nI p)
    rw [hI.1] at e2 m1 sb1
    obtain ⟨e3, I3⟩ := m_lpBack N hN hI m1 sb1
    have mq3 : Mq μ (sa 7 S0 μ1) := ((Mq.row (Or.inl rfl) _).trans m1.mq).trans (Mq.row (Or.inl rfl) _)
    have hR3 : RelA A κ1 (sa 7 S0 μ1) := q_close hR g1 mq3 ((ga_sa _ _ _).trans hI.1.symm)
    rw [b_ErrataRow_leastPurse_69, b12_leastPurse_30, if_neg (show ¬ (999 : Int32) < nI p from nI_nlt (a := 999) (by omega) (by omega)), if_neg (show ¬ (999 : Int32) < nI p from nI_nlt (a := 999) (by omega) (by omega)), if_neg (show ¬ (0 : Int32) ≤ -2 by decide), lt_s9, hI.1, show upd S0 (11 : Int32).toNatClampNeg (nI p) = pu S0 (nI p) from rfl, e2, bd_s]
    simp -implicitDefEqProofs only [hs.top, ck_1, e1, bd_s, e3, bo_s, lt_s9, nI_1]
    rcases r01 with rfl | rfl
    · rw [if_pos rfl, if_pos rfl]
      exact ih (p + 1) f (g + 1) κ1 _ (by omega) (by omega) (by omega) hR3 I3
    · rw [if_neg ne10, if_neg ne10, m_lpEnd N _ (by omega) (by omega)]
      exact ⟨_, κ1, _, rfl, rfl, A, rfl, hR3⟩
theorem sm_leastPurse (N : Nat) (hN : 20000 ≤ N) (x0 : Nat) : Sm_leastPurse N x0 (Rel x0) := by
  rintro κ μ a1 ⟨A, rfl, hR⟩
  have hs := hR.sh
  obtain ⟨c, h, e, q, nn, hO⟩ := hR.ok
  have h0 : fi κ (A 21) 0 = ga 7 μ 0 := hR.wd.1.1
  unfold p_ErrataRow_leastPurse p12_leastPurse
  simp -implicitDefEqProofs only [hs.top, hs.w20, ck_1, bo_s, bd_s, c_within, m_in N a1 1 40 1 40 (by decide) (by decide), m_isBook, h0, ite10]
  have done : Rel (A 0) κ μ := ⟨A, rfl, hR⟩
  rcases told_or hO with hb | hb
  · simp only [hb, ne10, if_true, if_false]
    by_cases hw : 1 ≤ a1 ∧ a1 ≤ 40
    · rw [if_pos hw, if_pos hw]
      obtain ⟨n, hn1, hn, rfl⟩ := in_nat1 40 (by omega) rfl hw
      have he : e ≤ 999 := hO.2.2.2.2.1
      obtain ⟨κ1, e1, g1, t1⟩ := q_open N hR hO hb
      have hT := t1 μ (Mq.refl μ) rfl
      have hs1 := hT.1
      have I0 : LI (ga 7 μ) μ (sa 9 (kpF (ga 7 μ) (ga 9 μ) 33) μ) := ⟨ga_sa_ne (by decide) _ _, fun k hk => by rw [ga_sa]; unfold kpF; rw [if_pos hk], Mq.row (by unfold Rq; omega) _⟩
      rw [m_keeps N (by omega)]
      simp -implicitDefEqProofs only [e1, bo_s, hs1.top, hs1.pr, ck_1]
      generalize hμk : sa 9 (kpF (ga 7 μ) (ga 9 μ) 33) μ = μk at I0
      -- the short way
      have short : (∀ r, fr κ1 (A 40) 2 = some (A (300 + 5 * r)) → NoP κ1 A r) → ∃ (r : Int32) (κ2 : Cz) (μ2 : Mz), p_ErrataRow_costOf N (A 0) (nI n) κ1 = some (r, κ2) ∧ b12_leastPurse_30 N N (nI n) (-2) 0 μk = some (r, μ2) ∧ Rel (A 0) κ2 μ2 := by
        intro hnp
        obtain ⟨C, κ2, e2, g2, H⟩ := c_cost N hN hn he t1 hR.lf (Q := q) hO.2.2.2.2.2.2.2.2.2.2.2.1 hO.2.2.2.2.2.2.2.2.2.2.1 hnp
        obtain ⟨μ2, e3, I2⟩ := m_lp N hN H (min C 1000) 0 N μk (by omega) (by omega) I0
        exact ⟨_, κ2, μ2, e2, e3, A, rfl, q_close hR (g1.trans g2) I2.2.2 I2.1⟩
      rcases hT.2.2.2.2.1 with ⟨-, f2⟩ | ⟨r, r6, r1, f3, f4⟩
      · rw [f2, oc_n]
        obtain ⟨r, κ2, μ2, e2, e3, hr⟩ := short (fun r z => by rw [f2] at z; cases z)
        rw [e2, bd_s]
        exact ⟨r, κ2, μ2, rfl, e3, hr⟩
      · rw [f3, oc_s]
        have ru : isK κ1 (A (300 + 5 * r)) 6 = true := by
          obtain ⟨_, _, _, _, _, z, _⟩ := f4
          exact z.1
        obtain ⟨v, e4, hv⟩ := c_asksFor N hN f4
        simp -implicitDefEqProofs only [oc_s, ru, ck_1, e4, bd_s, hs1.top]
        by_cases hz : v = 0
        · rw [if_pos hz]
          obtain ⟨r', κ2, μ2, e2, e3, hr⟩ := short (fun r2 z => by
            rw [f3] at z
            have : 300 + 5 * r = 300 + 5 * r2 := (hs1.inj _ _).mp (Option.some.inj z)
            have : r = r2 := by omega
            subst this
            exact hv hz)
          rw [e2, bd_s]
          exact ⟨r', κ2, μ2, rfl, e3, hr⟩
        · rw [if_neg hz]
          have hRk : RelA A κ1 μk := q_close hR g1 I0.2.2 I0.1
          exact lp_both N hN hn hO hb 1000 0 N N κ1 μk (by omega) (by omega) (by omega) hRk I0
    · rw [if_neg hw, if_neg hw]
      exact ⟨_, κ, μ, rfl, rfl, done⟩
  · simp only [hb, ne01, if_true, if_false]
    exact ⟨_, κ, μ, rfl, rfl, done⟩
