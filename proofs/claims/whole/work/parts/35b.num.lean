/-! a number in the text; the reference -/
theorem dg_b {v : Nat} (h : dgB v = true) : 48 ≤ v ∧ v ≤ 57 := by
  unfold dgB at h
  simpa using h
theorem sm_b {v : Nat} (h : smB v = true) : 97 ≤ v ∧ v ≤ 122 := by
  unfold smB at h
  simpa using h
/-- where the number at s ends, and what it is -/
def nmE (B : Nat → Nat) (t s : Nat) : Nat := runTo dgB B t s
def nmV (B : Nat → Nat) (t s : Nat) : Nat := numV B s (min (nmE B t s - s) 5)
theorem nmV_lt (B : Nat → Nat) (t s : Nat) : nmV B t s < 100000 := by
  have h := numV_lt B s (min (nmE B t s - s) 5) (fun i hi => runTo_in dgB B (t := t) (p := s) (by omega) (by unfold nmE at hi; omega))
  have h2 : 10 ^ min (nmE B t s - s) 5 ≤ 10 ^ 5 := Nat.pow_le_pow_right (by decide) (by omega)
  unfold nmV
  omega
/-- what a number that must lie between a1 and a2 does to the reference -/
def nmR (B : Nat → Nat) (t s : Nat) (a1 a2 : Int32) (μ : Mz) : Int32 × Mz := if nmE B t s - s ≤ 5 ∧ a1 ≤ nI (nmV B t s) ∧ nI (nmV B t s) ≤ a2 then (1, si 4 (nI (nmV B t s)) (si 2 (nI (nmE B t s)) μ)) else (0, flt 1 s (si 4 (nI (nmV B t s)) (si 2 (nI (nmE B t s)) μ)))
theorem m_num34 (N : Nat) (hN : 20000 ≤ N) {B : Nat → Nat} {t s : Nat} (hst : s ≤ t) (a1 a2 : Int32) : ∀ (d q n : Nat) (μ : Mz), q + d = nmE B t s → d < n → s ≤ q → TxM B t μ → gi 2 μ = nI q → b12_numberHere_34 N n a1 a2 (nI s) (nI (numV B s (min (q - s) 5))) μ = some (nmR B t s a1 a2 μ) := by
  intro d
  have hle : nmE B t s ≤ t := runTo_le _ _ hst
  induction d with
  | zero =>
    intro q n μ hq hn hs hT h2
    obtain ⟨n, rfl⟩ : ∃ k, n = k + 1 := ⟨n - 1, by omega⟩
    have ht := hT.1
    have e : q = nmE B t s := by omega
    have nd : ¬ (q < t ∧ dgB (B q) = true) := fun z => runTo_end dgB B (t := t) (p := s) (by have := e; unfold nmE at this; omega) (by have := e; unfold nmE at this; rw [← this]; exact z.2)
    have h2' : gi 2 (si 4 (nI (numV B s (min (q - s) 5))) μ) = nI q := by rw [gi_si_ne (by decide)]; exact h2
    have eV : numV B s (min (q - s) 5) = nmV B t s := by rw [e]; rfl
    have eM : si 4 (nI (nmV B t s)) μ = si 4 (nI (nmV B t s)) (si 2 (nI (nmE B t s)) μ) := by rw [← e, ← h2, si_gi]
    have f117 : b12_numberHere_117 N (nI s) (si 4 (nI (nmV B t s)) μ) = some (0, flt 1 s (si 4 (nI (nmV B t s)) μ)) := by
      unfold b12_numberHere_117
      rw [m_fails N (w := 1) 1 rfl, bd_s, if_pos rfl]
    rw [b12_numberHere_34, h2, m_isDigit N hT (by omega), bd_s, ite10, if_neg nd, lt_s9, h2', eV, nI_subN hs, m_in N (nI (nmV B t s)) a1 a2 _ _ rfl rfl, bo_s, ite10, f117]
    unfold nmR
    rw [← eM]
    by_cases z5 : 5 < q - s
    · rw [if_pos (show (5 : Int32) < nI (q - s) from (nI_ltI (a := 5) (by omega) (by omega)).mpr z5), if_neg (fun z => absurd z.1 (by omega))]
    · rw [if_neg (show ¬ (5 : Int32) < nI (q - s) from nI_nlt (a := 5) (by omega) (by omega))]
      by_cases z : a1 ≤ nI (nmV B t s) ∧ nI (nmV B t s) ≤ a2
      · rw [if_pos z, if_pos ⟨by omega, z⟩]
      · rw [if_neg z, if_neg (fun y => z y.2)]
  | succ d ih =>
    intro q n μ hq hn hs hT h2
    obtain ⟨n, rfl⟩ : ∃ k, n = k + 1 := ⟨n - 1, by omega⟩
    have ht := hT.1
    have hqt : q < t := by omega
    have hd : dgB (B q) = true := runTo_in dgB B (t := t) (p := s) hs (by unfold nmE at hq; omega)
    have hb := dg_b hd
    rw [b12_numberHere_34, h2, m_isDigit N hT (by omega), bd_s, ite10, if_pos ⟨hqt, hd⟩, h2, nI_subN hs]
    have hr : ∀ μ', nmR B t s a1 a2 (si 2 (nI (q + 1)) μ') = nmR B t s a1 a2 μ' := by
      intro μ'
      unfold nmR
      rw [si_si]
    by_cases z5 : 5 ≤ q - s
    · rw [if_pos (show (5 : Int32) ≤ nI (q - s) from nI_le (a := 5) (b := q - s) z5 (by omega)), lt_s9, nI_1]
      have := ih (q + 1) n (si 2 (nI (q + 1)) μ) (by omega) (by omega) (by omega) (hT.si (by decide) _) (gi_si _ _ _)
      rw [show min (q + 1 - s) 5 = 5 by omega, hr] at this
      rw [show min (q - s) 5 = 5 by omega]
      exact this
    · rw [if_neg (show ¬ (5 : Int32) ≤ nI (q - s) from nI_ge (b := 5) (by omega) (by omega)), lt_s9, ck_t (inb_nI (show q < 400 by omega) (by decide)), clN (by omega), (hT.2.2 q hqt).2, sx_lo _ (by omega), lt_s9, lt_s9, nI_1]
      have := ih (q + 1) n (si 2 (nI (q + 1)) μ) (by omega) (by omega) (by omega) (hT.si (by decide) _) (gi_si _ _ _)
      rw [hr, show min (q + 1 - s) 5 = q - s + 1 by omega, numV, show s + (q - s) = q by omega] at this
      rw [show min (q - s) 5 = q - s by omega, show (10 : Int32) = nI 10 from rfl, show (48 : Int32) = nI 48 from rfl, pk_mul, nI_add, nI_subN (by omega), show 10 * numV B s (q - s) + B q - 48 = 10 * numV B s (q - s) + (B q - 48) by omega]
      exact this
/-- a number from p on -/
theorem m_numberHere (N : Nat) (hN : 20000 ≤ N) {B : Nat → Nat} {t p : Nat} {μ : Mz} (hT : TxM B t μ) (hp : p ≤ t) (h2 : gi 2 μ = nI p) (a1 a2 : Int32) : p12_numberHere N a1 a2 μ = some (if skp B t p < t ∧ dgB (B (skp B t p)) = true then nmR B t (skp B t p) a1 a2 μ else (0, flt 0 (skp B t p) (si 2 (nI (skp B t p)) μ))) := by
  have hs : skp B t p ≤ t := runTo_le _ _ hp
  have ht := hT.1
  have hT2 := hT.si (k := 2) (by decide) (nI (skp B t p))
  unfold p12_numberHere
  rw [m_see N hN hT hp h2, bd_s, gi_si, m_isDigit N hT2 (by omega), bd_s, ite10]
  by_cases z : skp B t p < t ∧ dgB (B (skp B t p)) = true
  · rw [if_pos z, if_pos z, lt_s9, gi_si]
    have h := m_num34 N hN (s := skp B t p) hs a1 a2 (nmE B t (skp B t p) - skp B t p) (skp B t p) N (si 2 (nI (skp B t p)) μ) (by have := runTo_ge dgB B t (skp B t p); unfold nmE; omega) (by have := runTo_le dgB B hs; unfold nmE; omega) (Nat.le_refl _) hT2 (gi_si _ _ _)
    rw [Nat.sub_self, Nat.zero_min] at h
    have h' : b12_numberHere_34 N N a1 a2 (nI (skp B t p)) 0 (si 2 (nI (skp B t p)) μ) = some (nmR B t (skp B t p) a1 a2 (si 2 (nI (skp B t p)) μ)) := h
    rw [h']
    unfold nmR
    rw [si_si]
  · rw [if_neg z, if_neg z, gi_si, m_fails N (w := 0) 0 rfl, bd_s]
    rfl
