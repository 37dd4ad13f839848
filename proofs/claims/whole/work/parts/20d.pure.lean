/-! an edition in which m is mended: S behind it -/
/-- by the habit of edition e (of h told), left off lf -/
def sSlip (S : Nat → Int32) (c h e : Nat) (lf m : Int32) : Nat → Int32 :=
  if 0 < h ∧ nI (e % h) = lf then S else slipG S m (S (73 + 2 * (e % sRd h))) (S (73 + 2 * (e % sRd h) + 1)) c 0
theorem m_slipsBy (N : Nat) (hN : 11 ≤ N) (μ : Mz) {c h e : Nat} (hc : ga 7 μ 3 = nI c) (hc10 : c ≤ 10) (hb : ga 7 μ 0 = 1) (hh : ga 7 μ 2 = nI h) (h12 : h ≤ 12) (he : ga 7 μ 10 = nI e) (he2 : e < 2 ^ 31) (m : Int32) : p12_slipsBy N m μ = some (sa 7 (sSlip (ga 7 μ) c h e (gi 13 μ) m) μ) := by
  unfold p12_slipsBy
  have h10 : ga 7 μ (10 : Int32).toNatClampNeg = nI e := he
  have h2 : ga 7 μ (2 : Int32).toNatClampNeg = nI h := hh
  rw [h10, m_fromOn N μ hb hh h12 he2, bd_s, h2, h10]
  have hl := m_slipLoop N μ hc hc10 hb hh h12 he he2 m (ga 7 μ (73 + 2 * (e % sRd h))) c 0 N (by omega) (by omega)
  rw [nI_0] at hl
  unfold sSlip
  by_cases h0 : h = 0
  · subst h0
    rw [if_pos (by decide), if_neg (by omega)]
    exact hl
  · rw [if_neg (nI_nle (by omega) (by omega)), lt_s9, ck_t (show nz (nI h) = true from decide_eq_true (nI_ne0 (by omega) (by omega))), pk_rem he2 (by omega) (by omega)]
    by_cases hf : nI (e % h) = gi 13 μ
    · rw [if_pos hf, if_pos ⟨by omega, hf⟩, sa_ga]
    · rw [if_neg hf, if_neg (fun z => hf z.2)]
      exact hl
theorem slipG_o (S : Nat → Int32) (m f t : Int32) {j c : Nat} (hj : j < 13 ∨ 13 + c ≤ j) : ∀ (d i : Nat), i + d ≤ c → slipG S m f t d i j = S j
  | 0, _, _ => rfl
  | d + 1, i, h => by
    rw [slipG]
    split
    · exact slipG_o S m f t hj d (i + 1) (by omega)
    · split
      · have : j ≠ 13 + i := by omega
        simp [upd, this]
      · exact slipG_o S m f t hj d (i + 1) (by omega)
theorem sSlip_o (S : Nat → Int32) (c h e : Nat) (lf m : Int32) {j : Nat} (hj : j < 13 ∨ 13 + c ≤ j) : sSlip S c h e lf m j = S j := by
  unfold sSlip
  split
  · rfl
  · exact slipG_o S m _ _ hj c 0 (by omega)
/-- behind the mending: the slip, the pay, one edition more -/
def sPr2 (S : Nat → Int32) (c h e : Nat) (lf m : Int32) : (Nat → Int32) × Int32 × Int32 := payF c (sSlip S c h e lf m, 0, 0)
def sPrS (S : Nat → Int32) (c h e : Nat) (lf m : Int32) : Nat → Int32 := upd (sPr2 S c h e lf m).1 10 (nI (e + 1))
theorem m_prints2 (N : Nat) (hN : 11 ≤ N) (μ : Mz) {c h e : Nat} (hc : ga 7 μ 3 = nI c) (hc10 : c ≤ 10) (hb : ga 7 μ 0 = 1) (hh : ga 7 μ 2 = nI h) (h12 : h ≤ 12) (he : ga 7 μ 10 = nI e) (he2 : e < 2 ^ 31) (m : Int32) : b12_prints_22 N m μ = some (mP μ (sPrS (ga 7 μ) c h e (gi 13 μ) m) (sPr2 (ga 7 μ) c h e (gi 13 μ) m).2.1 (sPr2 (ga 7 μ) c h e (gi 13 μ) m).2.2) := by
  unfold b12_prints_22
  rw [m_slipsBy N hN μ hc hc10 hb hh h12 he he2 m, bo_s]
  have hc2 : ga 7 (sa 7 (sSlip (ga 7 μ) c h e (gi 13 μ) m) μ) 3 = nI c := by rw [ga_sa, sSlip_o _ _ _ _ _ _ (by omega)]; exact hc
  rw [m_pays N hN _ hc2 hc10, bo_s, ga_sa]
  have e1 : ∀ (T : Nat → Int32) (o p : Int32), mP (sa 7 (sSlip (ga 7 μ) c h e (gi 13 μ) m) μ) T o p = mP μ T o p := by
    intro T o p
    unfold mP
    rw [si_sa, si_sa, sa_sa]
  rw [e1, lt_s9, lt_s9, mP_7]
  have e10 : (payF c (sSlip (ga 7 μ) c h e (gi 13 μ) m, 0, 0)).1 (10 : Int32).toNatClampNeg = nI e := by
    refine (payF_o (j := 10) (by decide) (by decide) c _ (by omega)).trans ?_
    show sSlip (ga 7 μ) c h e (gi 13 μ) m 10 = nI e
    rw [sSlip_o _ _ _ _ _ _ (by omega)]
    exact he
  rw [e10, nI_1, mP_sa]
  rfl
/-- an edition in which the letter k is mended -/
theorem m_prints (N : Nat) (hN : 11 ≤ N) (μ : Mz) {c h e k : Nat} (hc : ga 7 μ 3 = nI c) (hc10 : c ≤ 10) (hb : ga 7 μ 0 = 1) (hh : ga 7 μ 2 = nI h) (h12 : h ≤ 12) (he : ga 7 μ 10 = nI e) (he2 : e < 2 ^ 31) (hk : k < c) : p12_prints N (nI k) μ = some (mP μ (sPrS (upd (ga 7 μ) (13 + k) (ga 7 μ (43 + k))) c h e (gi 13 μ) (nI k)) (sPr2 (upd (ga 7 μ) (13 + k) (ga 7 μ (43 + k))) c h e (gi 13 μ) (nI k)).2.1 (sPr2 (upd (ga 7 μ) (13 + k) (ga 7 μ (43 + k))) c h e (gi 13 μ) (nI k)).2.2) := by
  unfold p12_prints
  rw [if_neg (nI_pos (by omega)), lt_s9, show (43 : Int32) = nI 43 from rfl, show (13 : Int32) = nI 13 from rfl, nI_add, nI_add, ck_t (inb_nI (show 43 + k < 129 by omega) (by decide)), lt_s9, ck_t (inb_nI (show 13 + k < 129 by omega) (by decide)), lt_s9, nI_clamp (show 43 + k < 2 ^ 31 by omega), nI_clamp (show 13 + k < 2 ^ 31 by omega)]
  have u : ∀ j, j ≠ 13 + k → ga 7 (sa 7 (upd (ga 7 μ) (13 + k) (ga 7 μ (43 + k))) μ) j = ga 7 μ j := by
    intro j hj
    rw [ga_sa]
    simp [upd, hj]
  rw [m_prints2 N hN _ ((u 3 (by omega)).trans hc) hc10 ((u 0 (by omega)).trans hb) ((u 2 (by omega)).trans hh) h12 ((u 10 (by omega)).trans he) he2, ga_sa, gi_sa]
  have e1 : ∀ (T : Nat → Int32) (o p : Int32), mP (sa 7 (upd (ga 7 μ) (13 + k) (ga 7 μ (43 + k))) μ) T o p = mP μ T o p := by
    intro T o p
    unfold mP
    rw [si_sa, si_sa, sa_sa]
  rw [e1]
/-- an edition in which none is mended -/
theorem m_printsN (N : Nat) (hN : 11 ≤ N) (μ : Mz) {c h e : Nat} (hc : ga 7 μ 3 = nI c) (hc10 : c ≤ 10) (hb : ga 7 μ 0 = 1) (hh : ga 7 μ 2 = nI h) (h12 : h ≤ 12) (he : ga 7 μ 10 = nI e) (he2 : e < 2 ^ 31) : p12_prints N (-1) μ = some (mP μ (sPrS (ga 7 μ) c h e (gi 13 μ) (-1)) (sPr2 (ga 7 μ) c h e (gi 13 μ) (-1)).2.1 (sPr2 (ga 7 μ) c h e (gi 13 μ) (-1)).2.2) := by
  unfold p12_prints
  rw [if_pos (by decide)]
  exact m_prints2 N hN μ hc hc10 hb hh h12 he he2 (-1)
