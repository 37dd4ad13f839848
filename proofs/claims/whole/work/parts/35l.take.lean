/-! both take a word, a sign; behind a fault -/
theorem skp_skp (B : Nat → Nat) (t p : Nat) : skp B t (skp B t p) = skp B t p := by
  by_cases h : skp B t p < t
  · exact runTo_n _ _ (runTo_end blB B h)
  · exact runTo_t _ _ (by omega)
theorem skp_plc (B : Nat → Nat) (t : Nat) : ∀ k, skp B t (plc B t k) = plc B t k
  | 0 => skp_skp _ _ _
  | k + 1 => skp_skp _ _ _
theorem PJ.see {B : Nat → Nat} {t n k : Nat} {A : Nat → Nat} {κ : Cz} {μ : Mz} (h : PJ B t n k A κ μ) : PJ B t n k A κ (si 2 (nI (plc B t k)) μ) := by
  obtain ⟨h1, h2, h3, h4, -⟩ := h
  exact ⟨h1, h2, h3.si (by decide) _, by rw [gi_si_ne (by decide)]; exact h4, plc B t k, plc_le B t k, gi_si _ _ _, skp_plc B t k⟩
theorem f_num (N : Nat) {F : Nat} {A : Nat → Nat} {κ : Cz} (hs : Sh κ A) (h : Flt F A κ) (lo hi ex : Int32) : p_BookReader_readNumber N (A 6) lo hi ex κ = some (-1, κ) := by
  unfold p_BookReader_readNumber
  simp -implicitDefEqProofs only [hs.bR, hs.tk, ck_1, bo_s, lt_s9, h.2.2.2, f_fail N hs h]
  rw [if_neg (by decide), if_neg (by decide)]
theorem f_takeSign (N : Nat) {F : Nat} {A : Nat → Nat} {κ : Cz} (hs : Sh κ A) (h : Flt F A κ) (v : Int32) : p_Tokens_takeSign N (A 2) v κ = some κ := by
  unfold p_Tokens_takeSign
  simp -implicitDefEqProofs only [hs.tk, ck_1, bo_s, bd_s, f_isSign N hs h, f_fail N hs h]
  rw [if_pos trivial]
theorem word_both (N : Nat) (hN : 20000 ≤ N) {B : Nat → Nat} {t n k w : Nat} {A : Nat → Nat} {κ : Cz} {μ : Mz} (hJ : PJ B t n k A κ μ) (hw : isW B t (plc B t k) w = true) : ∃ κ1, p_Tokens_goOn N (A 2) κ = some κ1 ∧ p12_passWord N (si 2 (nI (plc B t k)) μ) = some (si 2 (nI (runTo smB B t (plc B t k))) μ) ∧ PJ B t n (k + 1) A κ1 (si 2 (nI (runTo smB B t (plc B t k))) μ) ∧ Chg A Lt5 κ κ1 := by
  have hJ2 := hJ.see
  obtain ⟨hs, hk, hT, h3, -⟩ := hJ
  have h0 := (isW_iff.mp hw).1
  have h1 : plc B t k < runTo smB B t (plc B t k) := by unfold wdL at h0; omega
  have hsm := runTo_in smB B (t := t) (Nat.le_refl (plc B t k)) h1
  have hle : runTo smB B t (plc B t k) ≤ t := runTo_le _ _ (plc_le B t k)
  have hst : plc B t k < t := by omega
  have hnd : ¬ dgB (B (plc B t k)) = true := fun z => by
    have := dg_b z
    have := sm_b hsm
    omega
  have kN : tkN B t (plc B t k) = runTo smB B t (plc B t k) := by
    unfold tkN
    rw [if_neg (show ¬ t ≤ plc B t k by omega), if_neg hnd, if_pos hsm]
  obtain ⟨κ1, e1, t1, g1⟩ := c_goOn N hs hk
  have hkn := hk.lt hst
  rw [Nat.min_eq_left (by omega)] at t1
  have hp := m_passWord N hN hJ2.2.2.1 (plc_le B t k) (gi_si _ _ _)
  rw [si_si] at hp
  refine ⟨κ1, e1, hp, ⟨hs.chg g1, t1, hT.si (by decide) _, by rw [gi_si_ne (by decide)]; exact h3, _, hle, gi_si _ _ _, ?_⟩, g1⟩
  rw [plc, kN]
theorem sign_both (N : Nat) {B : Nat → Nat} {t n k : Nat} {A : Nat → Nat} {κ : Cz} {μ : Mz} (hJ : PJ B t n k A κ μ) (hst : plc B t k < t) (hg : sgB (B (plc B t k)) = true) (ho : ¬ orS B t (plc B t k) = true) : ∃ κ1, p_Tokens_goOn N (A 2) κ = some κ1 ∧ PJ B t n (k + 1) A κ1 (si 2 (nI (plc B t k + 1)) μ) ∧ Chg A Lt5 κ κ1 := by
  obtain ⟨hs, hk, hT, h3, -⟩ := hJ
  obtain ⟨n1, n2⟩ := ne_dg _ (hT.2.2 _ hst).1 hg
  have kN : tkN B t (plc B t k) = plc B t k + 1 := by
    unfold tkN
    rw [if_neg (show ¬ t ≤ plc B t k by omega), if_neg n1, if_neg n2, if_neg (fun z => ho z.2)]
  obtain ⟨κ1, e1, t1, g1⟩ := c_goOn N hs hk
  have hkn := hk.lt hst
  rw [Nat.min_eq_left (by omega)] at t1
  refine ⟨κ1, e1, ⟨hs.chg g1, t1, hT.si (by decide) _, by rw [gi_si_ne (by decide)]; exact h3, _, (show plc B t k + 1 ≤ t by omega), gi_si _ _ _, ?_⟩, g1⟩
  rw [plc, kN]
