/-! tokens: the text is split -/
def orS (B : Nat → Nat) (t s : Nat) : Bool := (decide (B s = 60) || decide (B s = 62)) && decide (s + 1 < t) && decide (B (s + 1) = 61)
/-- the token at s: its kind, its value, the place behind it -/
def tkK (B : Nat → Nat) (t s : Nat) : Int32 := if t ≤ s then 0 else if dgB (B s) = true then (if nmE B t s - s ≤ 5 then 1 else 2) else if smB (B s) = true then (if wix B t s = -1 then 5 else 3) else if sgB (B s) = true then 4 else 5
def tkV (B : Nat → Nat) (t s : Nat) : Int32 := if t ≤ s then 0 else if dgB (B s) = true then nI (nmV B t s) else if smB (B s) = true then wix B t s else if sgB (B s) = true then (if orS B t s = true then nI (B s + 256) else nI (B s)) else 0
def tkN (B : Nat → Nat) (t s : Nat) : Nat := if t ≤ s then s else if dgB (B s) = true then nmE B t s else if smB (B s) = true then runTo smB B t s else if sgB (B s) = true ∧ orS B t s = true then s + 2 else s + 1
theorem tkN_gt (B : Nat → Nat) {t s : Nat} (h : s < t) : s < tkN B t s ∧ tkN B t s ≤ t := by
  unfold tkN
  rw [if_neg (by omega)]
  split
  · rename_i z
    unfold nmE
    rw [runTo_y _ _ h z]
    have h1 := runTo_ge dgB B t (s + 1)
    have h2 := runTo_le dgB B (show s + 1 ≤ t by omega)
    omega
  · split
    · rename_i z
      rw [runTo_y _ _ h z]
      have h1 := runTo_ge smB B t (s + 1)
      have h2 := runTo_le smB B (show s + 1 ≤ t by omega)
      omega
    · split
      · rename_i z
        have := z.2
        unfold orS at this
        simp only [Bool.and_eq_true, decide_eq_true_eq] at this
        omega
      · omega
section Split
variable {N : Nat} {B : Nat → Nat} {t : Nat} {A : Nat → Nat} {K V : Nat → Int32} {P : Nat → Nat}
theorem c_splitNumber (hN : 20000 ≤ N) {κ : Cz} {z s : Nat} (hs : Sh κ A) (hT : TxC B t A κ) (hz : z < 401) (hk : TkA κ A K V P z) (hst : s < t) (hd : dgB (B s) = true) (eK : K z = tkK B t s) (eV : V z = tkV B t s) (eP : P z = s) : ∃ κ1, p_Tokens_splitNumber N (A 2) (A 1) (nI t) (nI s) κ = some (nI (tkN B t s), κ1) ∧ TkA κ1 A K V P (z + 1) ∧ Chg A Lt5 κ κ1 := by
  obtain ⟨ht, k1, l1, hB⟩ := hT
  have hle : nmE B t s ≤ t := runTo_le _ _ (by omega)
  have hge : s ≤ nmE B t s := runTo_ge _ _ _ _
  have kV : tkV B t s = nI (nmV B t s) := by unfold tkV; rw [if_neg (by omega), if_pos hd]
  have kK : tkK B t s = if nmE B t s - s ≤ 5 then 1 else 2 := by unfold tkK; rw [if_neg (by omega), if_pos hd]
  have kN : tkN B t s = nmE B t s := by unfold tkN; rw [if_neg (by omega), if_pos hd]
  have fin : ∃ κ1, b_Tokens_splitNumber_51 N (A 2) (nI s) (nI (nmV B t s)) (nI (nmE B t s)) κ = some (nI (nmE B t s), κ1) ∧ TkA κ1 A K V P (z + 1) ∧ Chg A Lt5 κ κ1 := by
    unfold b_Tokens_splitNumber_51
    rw [nI_subN hge]
    by_cases y : nmE B t s - s ≤ 5
    · rw [if_pos (show nI (nmE B t s - s) ≤ 5 from nI_le (a := nmE B t s - s) (b := 5) y (by omega))]
      rw [if_pos y] at kK
      obtain ⟨κ1, e1, h1, g1⟩ := c_add N hs hz hk (a := 1) (b := nI (nmV B t s)) (p := s) (eK.trans kK) (eV.trans kV) eP
      simp -implicitDefEqProofs only [hs.tk, ck_1, e1, bo_s]
      exact ⟨κ1, rfl, h1, g1⟩
    · rw [if_neg (show ¬ nI (nmE B t s - s) ≤ 5 from nI_ge (a := 5) (b := nmE B t s - s) (by omega) (by omega))]
      rw [if_neg y] at kK
      obtain ⟨κ1, e1, h1, g1⟩ := c_add N hs hz hk (a := 2) (b := nI (nmV B t s)) (p := s) (eK.trans kK) (eV.trans kV) eP
      simp -implicitDefEqProofs only [hs.tk, ck_1, e1, bo_s]
      exact ⟨κ1, rfl, h1, g1⟩
  have L : ∀ (d q n : Nat), q + d = nmE B t s → d < n → s ≤ q → b_Tokens_splitNumber_6 N n (A 2) (A 1) (nI t) (nI s) (nI (numV B s (min (q - s) 5))) (nI q) κ = b_Tokens_splitNumber_51 N (A 2) (nI s) (nI (nmV B t s)) (nI (nmE B t s)) κ := by
    intro d
    induction d with
    | zero =>
      intro q n hq hn hsq
      obtain ⟨n, rfl⟩ : ∃ k, n = k + 1 := ⟨n - 1, by omega⟩
      have e : q = nmE B t s := by omega
      subst e
      rw [b_Tokens_splitNumber_6]
      by_cases y : nmE B t s = t
      · rw [if_pos (nI_le (by omega) (by omega))]
        rfl
      · have hv : nmE B t s < t := by omega
        have hb := hB _ hv
        have nd : ¬ dgB (B (nmE B t s)) = true := runTo_end dgB B (t := t) (p := s) hv
        rw [if_neg (nI_ge hv (by omega)), k1, ck_1, l1, ck_t (inb_nI (show nmE B t s < 400 by omega) (by decide)), clN (by omega), hb.2, c_isDigit N hb.1, bd_s, ite10, if_neg nd]
        rfl
    | succ d ih =>
      intro q n hq hn hsq
      obtain ⟨n, rfl⟩ : ∃ k, n = k + 1 := ⟨n - 1, by omega⟩
      have hqt : q < t := by omega
      have hb := hB q hqt
      have hdq : dgB (B q) = true := runTo_in dgB B (t := t) (p := s) hsq (by unfold nmE at hq; omega)
      have hb2 := dg_b hdq
      have := ih (q + 1) n (by omega) (by omega) (by omega)
      rw [b_Tokens_splitNumber_6, if_neg (nI_ge hqt (by omega)), k1, ck_1, l1, ck_t (inb_nI (show q < 400 by omega) (by decide)), clN (by omega), hb.2, c_isDigit N hb.1, bd_s, ite10, if_pos hdq, nI_subN hsq]
      by_cases z5 : 5 ≤ q - s
      · rw [if_pos (show (5 : Int32) ≤ nI (q - s) from nI_le (a := 5) (b := q - s) z5 (by omega)), lt_s9, nI_1]
        rw [show min (q + 1 - s) 5 = min (q - s) 5 by omega] at this
        exact this
      · rw [if_neg (show ¬ (5 : Int32) ≤ nI (q - s) from nI_ge (b := 5) (by omega) (by omega)), k1, ck_1, l1, ck_t (inb_nI (show q < 400 by omega) (by decide)), hb.2, lt_s9, lt_s9, nI_1]
        rw [show min (q + 1 - s) 5 = q - s + 1 by omega, numV, show s + (q - s) = q by omega] at this
        rw [show min (q - s) 5 = q - s by omega, show (10 : Int32) = nI 10 from rfl, show (48 : Int32) = nI 48 from rfl, pk_mul, nI_add, nI_subN (by omega), show numV B s (q - s) * 10 + B q - 48 = 10 * numV B s (q - s) + (B q - 48) by omega]
        exact this
  rw [kN]
  obtain ⟨κ1, e1, h1, g1⟩ := fin
  refine ⟨κ1, ?_, h1, g1⟩
  have h := L (nmE B t s - s) s N (by omega) (by omega) (Nat.le_refl _)
  rw [Nat.sub_self, Nat.zero_min] at h
  rw [← e1]
  exact h
theorem c_splitWord (hN : 20000 ≤ N) {κ : Cz} {z s : Nat} (hs : Sh κ A) (hT : TxC B t A κ) (hz : z < 401) (hk : TkA κ A K V P z) (hst : s < t) (hd : ¬ dgB (B s) = true) (hm : smB (B s) = true) (eK : K z = tkK B t s) (eV : V z = tkV B t s) (eP : P z = s) : ∃ κ1, p_Tokens_splitWord N (A 2) (A 1) (nI t) (nI s) κ = some (nI (tkN B t s), κ1) ∧ TkA κ1 A K V P (z + 1) ∧ Chg A Lt5 κ κ1 := by
  have hT' := hT
  obtain ⟨ht, k1, l1, hB⟩ := hT
  have hle : runTo smB B t s ≤ t := runTo_le _ _ (by omega)
  have hge : s ≤ runTo smB B t s := runTo_ge _ _ _ _
  have kV : tkV B t s = wix B t s := by unfold tkV; rw [if_neg (by omega), if_neg hd, if_pos hm]
  have kK : tkK B t s = if wix B t s = -1 then 5 else 3 := by unfold tkK; rw [if_neg (by omega), if_neg hd, if_pos hm]
  have kN : tkN B t s = runTo smB B t s := by unfold tkN; rw [if_neg (by omega), if_neg hd, if_pos hm]
  have ew : p_Tokens_wordOf N (A 1) (nI s) (nI (runTo smB B t s)) κ = some (wix B t s, κ) := by
    have h := c_wordOf N hN (L := wdL B t s) (s := s) hT' (by unfold wdL; omega)
    rw [show s + wdL B t s = runTo smB B t s by unfold wdL; omega] at h
    exact h
  have fin : ∃ κ1, b_Tokens_splitWord_25 N (A 2) (A 1) (nI s) (nI (runTo smB B t s)) κ = some (nI (runTo smB B t s), κ1) ∧ TkA κ1 A K V P (z + 1) ∧ Chg A Lt5 κ κ1 := by
    unfold b_Tokens_splitWord_25
    rw [ew, bd_s]
    by_cases y : wix B t s = -1
    · rw [if_pos y] at kK
      obtain ⟨κ1, e1, h1, g1⟩ := c_add N hs hz hk (a := 5) (b := wix B t s) (p := s) (eK.trans kK) (eV.trans kV) eP
      simp -implicitDefEqProofs only [hs.tk, ck_1, e1, bo_s]
      rw [if_pos y]
      exact ⟨κ1, rfl, h1, g1⟩
    · rw [if_neg y] at kK
      obtain ⟨κ1, e1, h1, g1⟩ := c_add N hs hz hk (a := 3) (b := wix B t s) (p := s) (eK.trans kK) (eV.trans kV) eP
      simp -implicitDefEqProofs only [hs.tk, ck_1, e1, bo_s]
      rw [if_neg y]
      exact ⟨κ1, rfl, h1, g1⟩
  have L : ∀ (d q n : Nat), q + d = runTo smB B t s → d < n → s ≤ q → b_Tokens_splitWord_3 N n (A 2) (A 1) (nI t) (nI s) (nI q) κ = b_Tokens_splitWord_25 N (A 2) (A 1) (nI s) (nI (runTo smB B t s)) κ := by
    intro d
    induction d with
    | zero =>
      intro q n hq hn hsq
      obtain ⟨n, rfl⟩ : ∃ k, n = k + 1 := ⟨n - 1, by omega⟩
      have e : q = runTo smB B t s := by omega
      rw [b_Tokens_splitWord_3]
      by_cases y : q = t
      · rw [if_pos (nI_le (by omega) (by omega)), e]
      · have hv : q < t := by omega
        have hb := hB _ hv
        have nd : ¬ smB (B q) = true := by rw [e]; exact runTo_end smB B (t := t) (p := s) (by omega)
        rw [if_neg (nI_ge hv (by omega)), k1, ck_1, l1, ck_t (inb_nI (show q < 400 by omega) (by decide)), clN (by omega), hb.2, c_isSmall N hb.1, bd_s, ite10, if_neg nd, e]
    | succ d ih =>
      intro q n hq hn hsq
      obtain ⟨n, rfl⟩ : ∃ k, n = k + 1 := ⟨n - 1, by omega⟩
      have hqt : q < t := by omega
      have hb := hB q hqt
      have hdq : smB (B q) = true := runTo_in smB B (t := t) (p := s) hsq (by omega)
      rw [b_Tokens_splitWord_3, if_neg (nI_ge hqt (by omega)), k1, ck_1, l1, ck_t (inb_nI (show q < 400 by omega) (by decide)), clN (by omega), hb.2, c_isSmall N hb.1, bd_s, ite10, if_pos hdq, lt_s9, nI_1]
      exact ih (q + 1) n (by omega) (by omega) (by omega)
  rw [kN]
  obtain ⟨κ1, e1, h1, g1⟩ := fin
  exact ⟨κ1, (L (runTo smB B t s - s) s N (by omega) (by omega) (Nat.le_refl _)).trans e1, h1, g1⟩
end Split
