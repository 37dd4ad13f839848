/-! row -/
def mnF (T : Nat → Int32) (i j : Nat) : Int32 := if j < i then -1 else T j
theorem mnF_s (T : Nat → Int32) (i : Nat) : upd (mnF T i) i (-1) = mnF T (i + 1) := by
  funext j
  rw [upd_at]
  unfold mnF
  by_cases h : j = i
  · rw [if_pos h, if_pos (by omega)]
  · rw [if_neg h]
    by_cases h2 : j < i
    · rw [if_pos h2, if_pos (by omega)]
    · rw [if_neg h2, if_neg (by omega)]
theorem m_row8 (N : Nat) (hN : 20000 ≤ N) (x1 x2 : Int32) (μ : Mz) : b12_findsRow_8 N N x1 x2 0 μ = b12_findsRow_26 N N x1 x2 (sa 10 (mnF (ga 10 μ) 4) μ) := by
  have L := upL 4 (fun n i => b12_findsRow_8 N n x1 x2 (nI i) (sa 10 (mnF (ga 10 μ) i) μ) = b12_findsRow_26 N N x1 x2 (sa 10 (mnF (ga 10 μ) 4) μ)) (by
    intro n
    rw [b12_findsRow_8, if_pos (show (4 : Int32) ≤ nI 4 from nI_le (a := 4) (b := 4) (by omega) (by omega))]) (by
    intro n i hi ih
    rw [b12_findsRow_8, if_neg (show ¬ (4 : Int32) ≤ nI i from nI_ge (b := 4) hi (by omega))]
    simp only [lt_s9, ck_1, inbT hi (by decide), clN (show i < 2147483648 by omega), ga_sa, sa_sa, mnF_s, nI_1]
    exact ih) N 0 (by omega) (by omega)
  have e : sa 10 (mnF (ga 10 μ) 0) μ = μ := by
    have : mnF (ga 10 μ) 0 = ga 10 μ := by
      funext j
      unfold mnF
      rw [if_neg (by omega)]
    rw [this, sa_ga]
  rw [e, nI_0] at L
  exact L
theorem pow11 {c d : Nat} (hc : c ≤ 10) (hd : d ≤ 4) : (c + 1) ^ d ≤ 14641 := Nat.le_trans (Nat.pow_le_pow_left (show c + 1 ≤ 11 by omega) d) (Nat.le_trans (Nat.pow_le_pow_right (by decide) hd) (by decide))
/-- what the reference finds -/
theorem m_finds (N : Nat) (hN : 20000 ≤ N) {c h e d : Nat} (hd : d ≤ 4) (he : e ≤ 999) {μ : Mz} (hO : OkS (ga 7 μ) c h e) (h13 : gi 13 μ = -1) : ∃ (T : Nat → Int32) (μ1 : Mz), p12_findsRow N (nI d) μ = some (nI (en c h d 0 e (ga 7 μ) T (11, T)).1, μ1) ∧ Mq μ μ1 ∧ ga 7 μ1 = ga 7 μ ∧ ∀ i, i < 4 → ga 11 μ1 i = (en c h d 0 e (ga 7 μ) T (11, T)).2 i := by
  have hc : c ≤ 10 := hO.2.2.1
  have hp := pow11 hc hd
  obtain ⟨n, hn⟩ : ∃ n, N = n + (c + 1) ^ d := ⟨N - (c + 1) ^ d, by omega⟩
  let μa := sa 9 (kpF (ga 7 μ) (ga 9 μ) 33) μ
  let μb := sa 10 (mnF (ga 10 μa) 4) μa
  have b7 : ga 7 μb = ga 7 μ := by
    show ga 7 (sa 10 _ (sa 9 _ μ)) = _
    rw [ga_sa_ne (by decide), ga_sa_ne (by decide)]
  have b9 : Kp μb (ga 7 μ) := by
    intro k hk
    show ga 9 (sa 10 _ (sa 9 _ μ)) k = _
    rw [ga_sa_ne (by decide), ga_sa]
    unfold kpF
    rw [if_pos hk]
  have b10 : ∀ i, i < 4 → ga 10 μb i = -1 := by
    intro i hi
    show ga 10 (sa 10 _ μa) i = _
    rw [ga_sa]
    unfold mnF
    rw [if_pos hi]
  have mq : Mq μ μb := (Mq.row (show Rq 9 by unfold Rq; omega) _).trans (Mq.row (show Rq 10 by unfold Rq; omega) _)
  obtain ⟨μ1, I1, t1, e1⟩ := m_odo N hN hd he hO (S0 := ga 7 μ) (μ0 := μ) d 0 μb (11, ga 10 μb) n (by omega) ⟨b7, b9, h13, Nat.le_refl _, fun z => absurd z (Nat.lt_irrefl 11), mq⟩ (fun i hi => ⟨0, by omega, b10 i (by omega)⟩) (fun i _ hi => b10 i (by omega))
  rw [← hn] at e1
  have l11 := en_lt hc h d 0 e (ga 7 μ) (ga 10 μb) (11, ga 10 μb)
  have eE : enO c h d 0 (e + 0) (ga 10 μb) (11, ga 10 μb) (pfx c h e (ga 7 μ) (ga 10 μb) 0) = en c h d 0 e (ga 7 μ) (ga 10 μb) (11, ga 10 μb) := rfl
  rw [eE] at I1 e1
  refine ⟨ga 10 μb, μ1, ?_, I1.2.2.2.2.2, I1.1, I1.2.2.2.2.1 l11⟩
  unfold p12_findsRow
  rw [m_keeps N (by omega), bo_s, m_row8 N hN]
  have e2 : bst (11, ga 10 μb) = -1 := rfl
  rw [e2] at e1
  refine (show b12_findsRow_26 N N (nI d) (-1) μb = _ from e1).trans ?_
  unfold aft
  rw [nxF, if_pos rfl]
  unfold bst
  rw [if_neg (by omega)]
/-- what the class finds -/
theorem c_search (N : Nat) (hN : 20000 ≤ N) {A : Nat → Nat} {κ : Cz} {S T : Nat → Int32} {c h e d : Nat} (hd : d ≤ 4) (he : e ≤ 999) (hs : Sh κ A) (hB : Bk κ A 21 S) (hS : St κ A 29 S) (hO : OkS S c h e) (h40 : fi κ (A 40) 3 = -1) : ∃ κ1, p_RowSearch_search N (A 42) (A 29) (nI d) κ = some κ1 ∧ Sh κ1 A ∧ fi κ1 (A 42) 4 = nI (en c h d 0 e S T (11, T)).1 ∧ (∀ i, i < d → ai κ1 (A 45) i = (en c h d 0 e S T (11, T)).2 i) ∧ Chg A Dc κ κ1 := by
  have hA := hs.inj
  have hc : c ≤ 10 := hO.2.2.1
  have g1 : Chg A (fun q => q = 42) κ (sfi (A 42) 4 11 κ) := Chg.sfi (L := fun q => q = 42) hA κ (r := 42) rfl _ _
  have f1 : fi (sfi (A 42) 4 11 κ) (A 42) 4 = nI 11 := by rw [fi_fi, if_pos ⟨rfl, rfl⟩]; rfl
  have hs1 := hs.chg g1
  generalize hκ1 : sfi (A 42) 4 11 κ = κ1 at g1 f1 hs1
  obtain ⟨κ2, e2, hS2, g2⟩ := c_copySt N hA (b := 46) (d := 29) hs1.r5.1 hs1.st29 (by omega) (hS.chg g1 (fun q z1 z2 z3 => by omega))
  have hs2 := hs1.chg g2
  have I2 : CI A S T 0 d (11, T) κ2 := ⟨hs2, (hB.chg g1 (fun q z1 z2 z3 => by omega)).chg g2 (fun q z1 z2 z3 => by unfold Ls at z3; omega), by rw [g2.fi (by unfold Ls; omega), g1.fi (by omega)]; exact h40, fun i hi => absurd hi (by omega), by rw [g2.fi (by unfold Ls; omega)]; exact f1, Nat.le_refl _, fun z => absurd z (Nat.lt_irrefl 11)⟩
  obtain ⟨κ3, e3, I3, g3⟩ := c_dfs N hN (e := e) hd he d 8 0 κ2 S T (11, T) (by omega) (by omega) I2 hS2 hO (Sb.refl _)
  have l11 := en_lt hc h d 0 e S T (11, T)
  refine ⟨κ3, ?_, I3.1, I3.2.2.2.2.1, I3.2.2.2.2.2.2 l11, ((g1.mono (fun q z => by unfold Dc; omega)).trans (g2.mono (fun q z => by unfold Ls at z; unfold Dc; omega))).trans (g3.mono (fun q z => by unfold Lx at z; unfold Dc; omega))⟩
  unfold p_RowSearch_search
  simp -implicitDefEqProofs only [hs.rS, ck_1, lt_s9, hκ1, hs1.rS, bo_s, show inb (0 : Int32) 5 = true from rfl, show (0 : Int32).toNatClampNeg = 0 from rfl, oc_s, hs1.r5.1, e2]
  rw [if_neg (show ¬ (4 : Int32) < nI d from nI_nlt (a := 4) hd (by omega))]
  unfold p_RowSearch_tryFrom
  rw [show (0 : Int32) = nI 0 from rfl, e3, bo_s]
theorem sm_row (N : Nat) (hN : 20000 ≤ N) (x0 : Nat) : Sm_row N x0 (Rel x0) := by
  rintro κ μ a1 a2 ⟨A, rfl, hR⟩
  have hs := hR.sh
  obtain ⟨c, h, e, q, nn, hO⟩ := hR.ok
  have hc10 : c ≤ 10 := hO.1
  have h0 : fi κ (A 21) 0 = ga 7 μ 0 := hR.wd.1.1
  unfold p_ErrataRow_row p12_row
  simp -implicitDefEqProofs only [hs.top, hs.w20, ck_1, bo_s, bd_s, c_within, m_in N a1 1 4 1 4 (by decide) (by decide), m_in N a2 0 4 0 4 (by decide) (by decide), m_isBook, h0, ite10]
  have done : Rel (A 0) κ μ := ⟨A, rfl, hR⟩
  rcases told_or hO with hb | hb
  · simp only [hb, ne10, if_true, if_false]
    by_cases hw : 1 ≤ a1 ∧ a1 ≤ 4
    · by_cases hv : 0 ≤ a2 ∧ a2 ≤ 4
      · rw [if_pos hw, if_pos hw, if_pos hv, if_pos hv]
        obtain ⟨d, hd1, hd, rfl⟩ := in_nat1 4 (by omega) rfl hw
        obtain ⟨k, hk, rfl⟩ := in_nat 4 (by omega) rfl hv
        have he : e ≤ 999 := hO.2.2.2.2.1
        have hOs := hO.oks hb
        obtain ⟨T, μ1, e1, mq1, h71, r1⟩ := m_finds N hN hd he hOs hR.lf
        rw [e1, bd_s]
        by_cases hdk : k ≤ d
        · rw [if_pos (nI_le hdk (by omega))]
          obtain ⟨κ1, e2, g2, f2, -⟩ := c_ready N hR (f := -1) (Or.inl rfl)
          have hs1 := hs.ch g2
          obtain ⟨κ2, e3, hs2, f4, r4, g3⟩ := c_search N hN (T := T) hd he hs1 (hR.wd.1.ch g2 (fun r z1 z2 z3 => by omega)) (hR.wd.2.2.1.ch g2 (fun r z1 z2 z3 => by omega)) hOs f2
          have hRel : Rel (A 0) κ2 μ1 := ⟨A, rfl, q_close hR ((g2.mono (fun r z => by unfold Dc; omega)).trans g3.ch) mq1 h71⟩
          simp -implicitDefEqProofs only [e2, bo_s, hs1.top, hs1.w20, hs1.rS, ck_1, e3, hs2.top, hs2.rS, f4]
          by_cases hk0 : k = 0
          · subst hk0
            rw [if_pos (show nI 0 = 0 from rfl), if_pos (show nI 0 = 0 from rfl)]
            exact ⟨_, κ2, μ1, rfl, rfl, hRel⟩
          · obtain ⟨j, rfl⟩ : ∃ j, k = j + 1 := ⟨k - 1, by omega⟩
            have nz : ¬ nI (j + 1) = 0 := fun z => absurd ((nI_eq (a := j + 1) (b := 0) (by omega) (by omega)).mp z) (by omega)
            rw [if_neg nz, if_neg nz, if_neg (nI_nlt hdk (by omega))]
            simp -implicitDefEqProofs only [lt_s9, sub1, inbT (show j < 4 by omega) (by decide), ck_1, clN (show j < 2147483648 by omega), r4 j (by omega), r1 j (by omega)]
            exact ⟨_, κ2, μ1, rfl, rfl, hRel⟩
        · rw [if_neg (nI_ge (show d < k by omega) (by omega))]
          have nz : ¬ nI k = 0 := fun z => absurd ((nI_eq (a := k) (b := 0) (by omega) (by omega)).mp z) (by omega)
          rw [if_neg nz, if_pos ((nI_ltI (by omega) (by omega)).mpr (by omega))]
          exact ⟨_, κ, μ1, rfl, rfl, A, rfl, q_close hR (Ch.refl _ _ _) mq1 h71⟩
      · rw [if_pos hw, if_pos hw, if_neg hv, if_neg hv]
        exact ⟨_, κ, μ, rfl, rfl, done⟩
    · rw [if_neg hw, if_neg hw]
      exact ⟨_, κ, μ, rfl, rfl, done⟩
  · simp only [hb, ne01, if_true, if_false]
    exact ⟨_, κ, μ, rfl, rfl, done⟩
