/-! the reference's state of a book, said S: which are wrong, loose; the habit; all by S alone -/
def sWr (S : Nat → Int32) (k : Nat) : Bool := decide (¬ S (13 + k) = S (43 + k))
def sWrong (S : Nat → Int32) (c : Nat) : Int32 := bitsF (sWr S) c 0
def sLs (S : Nat → Int32) (c k : Nat) : Bool := sWr S k && decide ((S (33 + k) &&& sWrong S c) = 0)
def sLoose (S : Nat → Int32) (c : Nat) : Int32 := bitsF (sLs S c) c 0
theorem m_wrong (N : Nat) (hN : 11 ≤ N) (μ : Mz) {c : Nat} (hc : ga 7 μ 3 = nI c) (hc10 : c ≤ 10) : p12_wrongOnes N μ = some (sWrong (ga 7 μ) c, μ) := m_wrongOnes N hN μ hc hc10
theorem m_isInBook (N : Nat) (a : Int32) (μ : Mz) : p12_isInBook N a μ = some (if 0 ≤ a ∧ a < ga 7 μ 3 then 1 else 0, μ) := by
  unfold p12_isInBook
  have h3 : ga 7 μ (3 : Int32).toNatClampNeg = ga 7 μ 3 := rfl
  rw [h3]
  by_cases h0 : a < 0
  · rw [if_pos h0, if_neg (fun z => Int32.not_le.mpr h0 z.1)]
  · rw [if_neg h0]
    by_cases h1 : ga 7 μ 3 ≤ a
    · rw [if_pos h1, if_neg (fun z => Int32.not_lt.mpr h1 z.2)]
    · rw [if_neg h1, if_pos ⟨Int32.not_lt.mp h0, Int32.not_le.mp h1⟩]
theorem m_isLoose (N : Nat) (hN : 11 ≤ N) (μ : Mz) {c k : Nat} (hc : ga 7 μ 3 = nI c) (hc10 : c ≤ 10) (hk : k < c) : p12_isLoose N (nI k) μ = some (if sLs (ga 7 μ) c k then 1 else 0, μ) := by
  unfold p12_isLoose
  rw [m_isInBook, hc, if_pos ⟨nI_pos' (by omega), nI_lt hk (by omega)⟩, bd_s, if_neg (by decide), m_isWrong N (by omega) μ, bd_s]
  by_cases hw : ga 7 μ (13 + k) = ga 7 μ (43 + k)
  · rw [if_pos hw, if_pos rfl]
    simp [sLs, sWr, hw]
  · rw [if_neg hw, if_neg (by decide), lt_s9, show (33 : Int32) = nI 33 from rfl, nI_add, ck_t (inb_nI (show 33 + k < 129 by omega) (by decide)), m_wrong N hN μ hc hc10, bd_s, nI_clamp (show 33 + k < 2 ^ 31 by omega)]
    by_cases hl : (ga 7 μ (33 + k) &&& sWrong (ga 7 μ) c) = 0
    · rw [if_pos hl]
      simp [sLs, sWr, hw, hl]
    · rw [if_neg hl]
      simp [sLs, sWr, hw, hl]
theorem m_looseLoop (N : Nat) (hN : 11 ≤ N) (μ : Mz) {c : Nat} (hc : ga 7 μ 3 = nI c) (hc10 : c ≤ 10) : ∀ (d i n : Nat), i + d = c → d < n → b12_looseOnes_4 N n (bitsF (sLs (ga 7 μ) c) i 0) (nI i) μ = some (sLoose (ga 7 μ) c, μ) := by
  intro d
  induction d with
  | zero =>
    intro i n hi hn
    obtain ⟨n, rfl⟩ : ∃ m, n = m + 1 := ⟨n - 1, by omega⟩
    have e : i = c := by omega
    subst e
    rw [b12_looseOnes_4]
    have h3 : ga 7 μ (3 : Int32).toNatClampNeg = nI i := hc
    rw [h3, if_pos (nI_le (Nat.le_refl i) (by omega))]
    rfl
  | succ d ih =>
    intro i n hi hn
    obtain ⟨n, rfl⟩ : ∃ m, n = m + 1 := ⟨n - 1, by omega⟩
    rw [b12_looseOnes_4]
    have h3 : ga 7 μ (3 : Int32).toNatClampNeg = nI c := hc
    rw [h3, if_neg (nI_ge (show i < c by omega) (by omega)), m_isLoose N hN μ hc hc10 (by omega), bd_s]
    have hs := ih (i + 1) n (by omega) (by omega)
    rw [bitsF] at hs
    by_cases hw : sLs (ga 7 μ) c i = true
    · rw [if_pos hw, if_neg (by decide), lt_s9, lt_s9, nI_1]
      simpa [hw] using hs
    · rw [if_neg hw, if_pos rfl, lt_s9, lt_s9, or_zero32, nI_1]
      simpa [hw] using hs
theorem m_loose (N : Nat) (hN : 11 ≤ N) (μ : Mz) {c : Nat} (hc : ga 7 μ 3 = nI c) (hc10 : c ≤ 10) : p12_looseOnes N μ = some (sLoose (ga 7 μ) c, μ) := m_looseLoop N hN μ hc hc10 c 0 N (by omega) (by omega)
theorem m_isBook (N : Nat) (μ : Mz) : p12_isBook N μ = some (if ga 7 μ 0 = 1 then 1 else 0, μ) := by
  unfold p12_isBook
  have h3 : ga 7 μ (0 : Int32).toNatClampNeg = ga 7 μ 0 := rfl
  rw [h3]
  split <;> rfl
/-- how many editions come round -/
def sRd (h : Nat) : Nat := if h = 0 then 1 else h
theorem m_rounds (N : Nat) (μ : Mz) {h : Nat} (hb : ga 7 μ 0 = 1) (hh : ga 7 μ 2 = nI h) (h12 : h ≤ 12) : p12_rounds N μ = some (nI (sRd h), μ) := by
  unfold p12_rounds
  have h3 : ga 7 μ (2 : Int32).toNatClampNeg = nI h := hh
  rw [m_isBook, if_pos hb, bd_s, if_neg (by decide), h3]
  by_cases z : h = 0
  · subst z
    rfl
  · rw [if_neg (nI_ne0 (by omega) (by omega))]
    simp [sRd, z]
theorem m_fromOn (N : Nat) (μ : Mz) {h e : Nat} (hb : ga 7 μ 0 = 1) (hh : ga 7 μ 2 = nI h) (h12 : h ≤ 12) (he : e < 2 ^ 31) : p12_fromOn N (nI e) μ = some (ga 7 μ (73 + 2 * (e % sRd h)), μ) := by
  have hr : 0 < sRd h ∧ sRd h ≤ 12 := by unfold sRd; split <;> omega
  have hm : e % sRd h < sRd h := Nat.mod_lt _ hr.1
  unfold p12_fromOn
  rw [m_rounds N μ hb hh h12, bd_s, ck_t (show nz (nI (sRd h)) = true from decide_eq_true (nI_ne0 hr.1 (by omega))), lt_s9, pk_rem he hr.1 (by omega), show (2 : Int32) = nI 2 from rfl, pk_mul, show (73 : Int32) = nI 73 from rfl, nI_add, ck_t (inb_nI (show 73 + 2 * (e % sRd h) < 129 by omega) (by decide)), nI_clamp (by omega)]
theorem m_toOn (N : Nat) (μ : Mz) {h e : Nat} (hb : ga 7 μ 0 = 1) (hh : ga 7 μ 2 = nI h) (h12 : h ≤ 12) (he : e < 2 ^ 31) : p12_toOn N (nI e) μ = some (ga 7 μ (73 + 2 * (e % sRd h) + 1), μ) := by
  have hr : 0 < sRd h ∧ sRd h ≤ 12 := by unfold sRd; split <;> omega
  have hm : e % sRd h < sRd h := Nat.mod_lt _ hr.1
  unfold p12_toOn
  rw [m_rounds N μ hb hh h12, bd_s, ck_t (show nz (nI (sRd h)) = true from decide_eq_true (nI_ne0 hr.1 (by omega))), lt_s9, pk_rem he hr.1 (by omega), show (2 : Int32) = nI 2 from rfl, pk_mul, show (73 : Int32) = nI 73 from rfl, nI_add, nI_1, ck_t (inb_nI (show 73 + 2 * (e % sRd h) + 1 < 129 by omega) (by decide)), nI_clamp (by omega)]
