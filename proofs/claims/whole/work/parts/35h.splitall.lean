/-! tokens: signs, and all of the text -/
theorem ne_dg : ∀ v, v < 256 → sgB v = true → ¬ dgB v = true ∧ ¬ smB v = true := by decide +kernel
section Split2
variable {N : Nat} {B : Nat → Nat} {t : Nat} {A : Nat → Nat} {K V : Nat → Int32} {P : Nat → Nat}
theorem c_splitSign (hN : 20000 ≤ N) {κ : Cz} {z s : Nat} (hs : Sh κ A) (hT : TxC B t A κ) (hz : z < 401) (hk : TkA κ A K V P z) (hst : s < t) (hd : ¬ dgB (B s) = true) (hm : ¬ smB (B s) = true) (eK : K z = tkK B t s) (eV : V z = tkV B t s) (eP : P z = s) : ∃ κ1, p_Tokens_splitSign N (A 2) (A 1) (nI t) (nI s) κ = some (nI (tkN B t s), κ1) ∧ TkA κ1 A K V P (z + 1) ∧ Chg A Lt5 κ κ1 := by
  obtain ⟨ht, k1, l1, hB⟩ := hT
  have hb := hB s hst
  have kV : tkV B t s = if sgB (B s) = true then (if orS B t s = true then nI (B s + 256) else nI (B s)) else 0 := by unfold tkV; rw [if_neg (by omega), if_neg hd, if_neg hm]
  have kK : tkK B t s = if sgB (B s) = true then 4 else 5 := by unfold tkK; rw [if_neg (by omega), if_neg hd, if_neg hm]
  have kN : tkN B t s = if sgB (B s) = true ∧ orS B t s = true then s + 2 else s + 1 := by unfold tkN; rw [if_neg (by omega), if_neg hd, if_neg hm]
  obtain ⟨r, er, hr⟩ := c_signIx N hN hb.1 κ
  unfold p_Tokens_splitSign
  rw [k1, ck_1, l1, ck_t (inb_nI (show s < 400 by omega) (by decide)), lt_s9, clN (by omega), hb.2, er, bd_s]
  by_cases y : sgB (B s) = true
  · rw [if_pos (hr.mpr y)]
    rw [if_pos y] at kV kK
    have no : orS B t s = false → ∃ κ1, b_Tokens_splitSign_62 N (A 2) (nI s) (nI (B s)) κ = some (nI (tkN B t s), κ1) ∧ TkA κ1 A K V P (z + 1) ∧ Chg A Lt5 κ κ1 := by
      intro ho
      rw [if_neg (by rw [ho]; decide)] at kV
      rw [if_neg (fun q => by rw [ho] at q; exact absurd q.2 (by decide))] at kN
      obtain ⟨κ1, e1, h1, g1⟩ := c_add N hs hz hk (a := 4) (b := nI (B s)) (p := s) (eK.trans kK) (eV.trans kV) eP
      unfold b_Tokens_splitSign_62 b_Tokens_splitSign_63
      rw [if_pos rfl]
      unfold b_Tokens_splitSign_83
      simp -implicitDefEqProofs only [hs.tk, ck_1, e1, bo_s]
      rw [if_pos trivial, kN, nI_1]
      exact ⟨κ1, rfl, h1, g1⟩
    have mid : (B s = 60 ∨ B s = 62) → ∃ κ1, b_Tokens_splitSign_41 N (A 2) (A 1) (nI t) (nI s) (nI (B s)) κ = some (nI (tkN B t s), κ1) ∧ TkA κ1 A K V P (z + 1) ∧ Chg A Lt5 κ κ1 := by
      intro h6
      unfold b_Tokens_splitSign_41
      rw [nI_1]
      by_cases x : s + 1 < t
      · have hb1 := hB _ x
        rw [if_neg (nI_ge x (by omega)), lt_s9, k1, ck_1, l1, ck_t (inb_nI (show s + 1 < 400 by omega) (by decide)), clN (by omega), hb1.2]
        by_cases w : B (s + 1) = 61
        · have ho : orS B t s = true := by
            unfold orS
            simp only [Bool.and_eq_true, Bool.or_eq_true, decide_eq_true_eq]
            exact ⟨⟨h6, x⟩, w⟩
          rw [if_pos ho] at kV
          rw [if_pos ⟨y, ho⟩] at kN
          rw [if_pos (show nI (B (s + 1)) = 61 by rw [w]; rfl)]
          obtain ⟨κ1, e1, h1, g1⟩ := c_add N hs hz hk (a := 4) (b := nI (B s + 256)) (p := s) (eK.trans kK) (eV.trans kV) eP
          unfold b_Tokens_splitSign_63
          rw [if_neg ne10]
          unfold b_Tokens_splitSign_83
          rw [show nI (B s) + 256 = nI (B s + 256) from nI_add _ _]
          simp -implicitDefEqProofs only [hs.tk, ck_1, e1, bo_s]
          rw [if_neg ne10, kN, show nI s + 2 = nI (s + 2) from nI_add _ _]
          exact ⟨κ1, rfl, h1, g1⟩
        · rw [if_neg (show ¬ nI (B (s + 1)) = 61 from fun q => w ((nI_eq (b := 61) (by omega) (by omega)).mp q))]
          exact no (by unfold orS; rw [decide_eq_false w, Bool.and_false])
      · rw [if_pos (nI_le (by omega) (by omega))]
        exact no (by unfold orS; rw [decide_eq_false x, Bool.and_false, Bool.false_and])
    by_cases a60 : B s = 60
    · rw [if_pos (show nI (B s) = 60 by rw [a60]; rfl)]
      exact mid (Or.inl a60)
    · rw [if_neg (show ¬ nI (B s) = 60 from fun q => a60 ((nI_eq (b := 60) (by omega) (by omega)).mp q))]
      by_cases a62 : B s = 62
      · rw [if_pos (show nI (B s) = 62 by rw [a62]; rfl)]
        exact mid (Or.inr a62)
      · rw [if_neg (show ¬ nI (B s) = 62 from fun q => a62 ((nI_eq (b := 62) (by omega) (by omega)).mp q))]
        exact no (by unfold orS; rw [decide_eq_false a60, decide_eq_false a62]; rfl)
  · rw [if_neg (fun q => y (hr.mp q))]
    rw [if_neg y] at kV kK
    rw [if_neg (fun q => y q.1)] at kN
    obtain ⟨κ1, e1, h1, g1⟩ := c_add N hs hz hk (a := 5) (b := 0) (p := s) (eK.trans kK) (eV.trans kV) eP
    simp -implicitDefEqProofs only [hs.tk, ck_1, e1, bo_s, nI_1, kN]
    exact ⟨κ1, rfl, h1, g1⟩
theorem c_splitOne (hN : 20000 ≤ N) {κ : Cz} {z s : Nat} (hs : Sh κ A) (hT : TxC B t A κ) (hz : z < 401) (hk : TkA κ A K V P z) (hst : s < t) (hbl : ¬ blB (B s) = true) (eK : K z = tkK B t s) (eV : V z = tkV B t s) (eP : P z = s) : ∃ κ1, p_Tokens_splitOne N (A 2) (A 1) (nI t) (nI s) κ = some (nI (tkN B t s), κ1) ∧ TkA κ1 A K V P (z + 1) ∧ Chg A Lt5 κ κ1 := by
  have hT' := hT
  obtain ⟨ht, k1, l1, hB⟩ := hT
  have hb := hB s hst
  have n32 : ¬ nI (B s) = 32 := fun q => hbl (decide_eq_true ((nI_eq (b := 32) (by omega) (by omega)).mp q))
  unfold p_Tokens_splitOne
  rw [k1, ck_1, l1, ck_t (inb_nI (show s < 400 by omega) (by decide)), lt_s9, clN (by omega), hb.2, if_neg n32, c_isDigit N hb.1, bd_s, ite10]
  by_cases hd : dgB (B s) = true
  · obtain ⟨κ1, e1, h1, g1⟩ := c_splitNumber hN hs hT' hz hk hst hd eK eV eP
    rw [if_pos hd]
    simp -implicitDefEqProofs only [hs.tk, ck_1, e1, bd_s]
    exact ⟨κ1, rfl, h1, g1⟩
  · rw [if_neg hd, c_isSmall N hb.1, bd_s, ite10]
    by_cases hm : smB (B s) = true
    · obtain ⟨κ1, e1, h1, g1⟩ := c_splitWord hN hs hT' hz hk hst hd hm eK eV eP
      rw [if_pos hm]
      simp -implicitDefEqProofs only [hs.tk, ck_1, e1, bd_s]
      exact ⟨κ1, rfl, h1, g1⟩
    · obtain ⟨κ1, e1, h1, g1⟩ := c_splitSign hN hs hT' hz hk hst hd hm eK eV eP
      rw [if_neg hm]
      simp -implicitDefEqProofs only [hs.tk, ck_1, e1, bd_s]
      exact ⟨κ1, rfl, h1, g1⟩
end Split2
/-- the place of the k-th token -/
def plc (B : Nat → Nat) (t : Nat) : Nat → Nat
  | 0 => skp B t 0
  | k + 1 => skp B t (tkN B t (plc B t k))
theorem plc_le (B : Nat → Nat) (t : Nat) : ∀ k, plc B t k ≤ t
  | 0 => runTo_le _ _ (Nat.zero_le _)
  | k + 1 => by
    have h := plc_le B t k
    rw [plc]
    refine runTo_le _ _ ?_
    by_cases q : plc B t k < t
    · exact (tkN_gt B q).2
    · unfold tkN
      rw [if_pos (by omega)]
      exact h
/-- the tokens stand: n before the end; the at-th is here, no fault -/
def Tks (B : Nat → Nat) (t n k : Nat) (A : Nat → Nat) (κ : Cz) : Prop := plc B t n = t ∧ (∀ i, i < n → plc B t i < t) ∧ n ≤ 400 ∧ k ≤ n ∧ TkA κ A (fun i => tkK B t (plc B t i)) (fun i => tkV B t (plc B t i)) (plc B t) (n + 1) ∧ fi κ (A 2) 4 = nI k ∧ fi κ (A 2) 5 = tkK B t (plc B t k) ∧ fi κ (A 2) 6 = tkV B t (plc B t k) ∧ fi κ (A 2) 7 = 0
theorem c_split (N : Nat) (hN : 20000 ≤ N) {B : Nat → Nat} {t : Nat} {A : Nat → Nat} {κ : Cz} (hs : Sh κ A) (hT : TxC B t A κ) : ∃ (n : Nat) (κ1 : Cz), p_Tokens_split N (A 2) (A 1) (nI t) κ = some κ1 ∧ Tks B t n 0 A κ1 ∧ Chg A Lt5 κ κ1 := by
  have hA := hs.inj
  have ht := hT.1
  have L : ∀ (d q f z : Nat) (κ : Cz), q + d = t → d < f → z ≤ q → Sh κ A → TxC B t A κ → TkA κ A (fun i => tkK B t (plc B t i)) (fun i => tkV B t (plc B t i)) (plc B t) z → plc B t z = skp B t q → (∀ i, i < z → plc B t i < t) → ∃ (n : Nat) (κ1 : Cz), b_Tokens_split_7 N f (A 2) (A 1) (nI t) (nI q) κ = some κ1 ∧ Tks B t n 0 A κ1 ∧ Chg A Lt5 κ κ1 := by
    intro d
    induction d using Nat.strongRecOn with
    | ind d ih =>
      intro q f z κ hq hf hz hs hT hk hp hl
      obtain ⟨f, rfl⟩ : ∃ k, f = k + 1 := ⟨f - 1, by omega⟩
      rw [b_Tokens_split_7]
      by_cases e : q = t
      · rw [if_pos (nI_le (by omega) (by omega))]
        have hpt : plc B t z = t := by rw [hp, e]; exact runTo_t _ _ (Nat.le_refl _)
        obtain ⟨κ1, e1, h1, g1⟩ := c_add N hs (show z < 401 by omega) hk (a := 0) (b := 0) (p := t) (by show tkK B t (plc B t z) = 0; rw [hpt]; unfold tkK; rw [if_pos (Nat.le_refl _)]) (by show tkV B t (plc B t z) = 0; rw [hpt]; unfold tkV; rw [if_pos (Nat.le_refl _)]) hpt
        have hs1 := hs.chg g1
        have i0 := h1.2 0 (by omega)
        simp -implicitDefEqProofs only [hs.tk, ck_1, e1, bo_s, hs1.tk, lt_s9, isK_fi, fr_fi, ln_fi, ai_fi, show inb (0 : Int32) 401 = true from rfl, show (0 : Int32).toNatClampNeg = 0 from rfl, i0.1, i0.2.1]
        have g2 : Chg A Lt5 κ1 (sfi (A 2) 7 0 (sfi (A 2) 6 (tkV B t (plc B t 0)) (sfi (A 2) 5 (tkK B t (plc B t 0)) (sfi (A 2) 4 0 κ1)))) := (((Chg.sfi (L := Lt5) hA κ1 (r := 2) (by unfold Lt5; omega) _ _).trans (Chg.sfi (L := Lt5) hA _ (r := 2) (by unfold Lt5; omega) _ _)).trans (Chg.sfi (L := Lt5) hA _ (r := 2) (by unfold Lt5; omega) _ _)).trans (Chg.sfi (L := Lt5) hA _ (r := 2) (by unfold Lt5; omega) _ _)
        refine ⟨z, _, rfl, ⟨hpt, hl, by omega, Nat.zero_le _, ⟨?_, fun i hi => ?_⟩, ?_, ?_, ?_, ?_⟩, g1.trans g2⟩
        · rw [fi_fi, if_neg (by simp), fi_fi, if_neg (by simp), fi_fi, if_neg (by simp), fi_fi, if_neg (by simp)]; exact h1.1
        · rw [ai_fi, ai_fi, ai_fi, ai_fi]; exact h1.2 i hi
        · rw [fi_fi, if_neg (by simp), fi_fi, if_neg (by simp), fi_fi, if_neg (by simp), fi_fi, if_pos ⟨rfl, rfl⟩]; rfl
        · rw [fi_fi, if_neg (by simp), fi_fi, if_neg (by simp), fi_fi, if_pos ⟨rfl, rfl⟩]
        · rw [fi_fi, if_neg (by simp), fi_fi, if_pos ⟨rfl, rfl⟩]
        · rw [fi_fi, if_pos ⟨rfl, rfl⟩]
      · have hqt : q < t := by omega
        rw [if_neg (nI_ge hqt (by omega)), nI_1]
        by_cases hbl : blB (B q) = true
        · have e1 : p_Tokens_splitOne N (A 2) (A 1) (nI t) (nI q) κ = some (nI (q + 1), κ) := by
            obtain ⟨-, k1, l1, hB⟩ := hT
            unfold p_Tokens_splitOne
            rw [k1, ck_1, l1, ck_t (inb_nI (show q < 400 by omega) (by decide)), lt_s9, clN (by omega), (hB q hqt).2, if_pos (show nI (B q) = 32 by rw [of_decide_eq_true hbl]; rfl), nI_1]
          simp -implicitDefEqProofs only [hs.tk, ck_1, e1, bd_s, lt_s9]
          rw [if_neg (nI_nlt (Nat.le_refl _) (by omega))]
          exact ih (d - 1) (by omega) (q + 1) f z κ (by omega) (by omega) (by omega) hs hT hk (by rw [hp]; exact runTo_y _ _ hqt hbl) hl
        · have hpq : plc B t z = q := by rw [hp]; exact runTo_n _ _ hbl
          obtain ⟨κ1, e1, h1, g1⟩ := c_splitOne (N := N) hN hs hT (show z < 401 by omega) hk hqt hbl (by show tkK B t (plc B t z) = _; rw [hpq]) (by show tkV B t (plc B t z) = _; rw [hpq]) hpq
          obtain ⟨n1, n2⟩ := tkN_gt B hqt
          simp -implicitDefEqProofs only [hs.tk, ck_1, e1, bd_s, lt_s9]
          have em : (if nI (q + 1) < nI (tkN B t q) then nI (tkN B t q) else nI (q + 1)) = nI (tkN B t q) := by
            by_cases w : q + 1 < tkN B t q
            · rw [if_pos ((nI_ltI (by omega) (by omega)).mpr w)]
            · rw [if_neg (nI_nlt (by omega) (by omega)), show q + 1 = tkN B t q by omega]
          rw [em]
          obtain ⟨n, κ2, e2, h2, g2⟩ := ih (t - tkN B t q) (by omega) (tkN B t q) f (z + 1) κ1 (by omega) (by omega) (by omega) (hs.chg g1) (hT.chg g1 (by unfold Lt5; omega)) h1 (by rw [plc, hpq]) (fun i hi => by
            by_cases w : i = z
            · subst w; rw [hpq]; exact hqt
            · exact hl i (by omega))
          exact ⟨n, κ2, e2, h2, g1.trans g2⟩
  have g0 : Chg A Lt5 κ (sfi (A 2) 3 0 κ) := Chg.sfi (L := Lt5) hA κ (r := 2) (by unfold Lt5; omega) _ _
  obtain ⟨n, κ1, e1, h1, g1⟩ := L t 0 N 0 (sfi (A 2) 3 0 κ) (by omega) (by omega) (Nat.le_refl _) (hs.chg g0) (hT.chg g0 (by unfold Lt5; omega)) ⟨by rw [fi_fi, if_pos ⟨rfl, rfl⟩]; rfl, fun i hi => absurd hi (by omega)⟩ rfl (fun i hi => absurd hi (by omega))
  refine ⟨n, κ1, ?_, h1, g0.trans g1⟩
  unfold p_Tokens_split
  simp -implicitDefEqProofs only [hs.tk, ck_1, lt_s9]
  exact e1
