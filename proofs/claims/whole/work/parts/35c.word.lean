/-! a word in the text; the reference -/
def nL (k : Nat) : Int64 := ⟨⟨BitVec.ofNat 64 k⟩⟩
theorem nL_push {a b : Nat} (ha : a < 2 ^ 56) (hb : b < 256) : (nL a <<< ((8 : Int32).toInt64 &&& 63)) ||| nL b = nL (a * 256 + b) := by
  rw [show ((8 : Int32).toInt64 &&& 63) = (8 : Int64) by decide]
  apply Int64.toBitVec_inj.mp
  rw [Int64.toBitVec_or, Int64.toBitVec_shiftLeft]
  show (BitVec.ofNat 64 a <<< ((8 : Int64).toBitVec.smod 64)) ||| BitVec.ofNat 64 b = BitVec.ofNat 64 (a * 256 + b)
  rw [show ((8 : Int64).toBitVec.smod 64) = 8#64 by decide]
  apply BitVec.eq_of_toNat_eq
  rw [BitVec.toNat_or]
  show (BitVec.ofNat 64 a <<< (8#64).toNat).toNat ||| _ = _
  rw [BitVec.toNat_shiftLeft, BitVec.toNat_ofNat, BitVec.toNat_ofNat, BitVec.toNat_ofNat, BitVec.toNat_ofNat, show 8 % 2 ^ 64 = 8 from rfl, Nat.mod_eq_of_lt (show a < 2 ^ 64 by omega), Nat.mod_eq_of_lt (show b < 2 ^ 64 by omega), Nat.shiftLeft_eq, Nat.mod_eq_of_lt (show a * 2 ^ 8 < 2 ^ 64 by omega), Nat.mod_eq_of_lt (show a * 256 + b < 2 ^ 64 by omega)]
  have h := Nat.shiftLeft_add_eq_or_of_lt (show b < 2 ^ 8 by omega) a
  rw [Nat.shiftLeft_eq] at h
  rw [← h]
theorem nL_b : ∀ b, b < 128 → (nI b).toInt64 = nL b := by decide +kernel
theorem nL_eq {a b : Nat} (ha : a < 2 ^ 64) (hb : b < 2 ^ 64) : nL a = nL b ↔ a = b := by
  refine ⟨fun h => ?_, fun h => by rw [h]⟩
  have h1 : (nL a).toBitVec.toNat = (nL b).toBitVec.toNat := by rw [h]
  have h2 : (BitVec.ofNat 64 a).toNat = (BitVec.ofNat 64 b).toNat := h1
  rw [BitVec.toNat_ofNat, BitVec.toNat_ofNat, Nat.mod_eq_of_lt ha, Nat.mod_eq_of_lt hb] at h2
  exact h2
/-- the first k letters from s on, packed -/
def pkW (B : Nat → Nat) (s : Nat) : Nat → Nat
  | 0 => 0
  | k + 1 => pkW B s k * 256 + B (s + k)
theorem pkW_lt (B : Nat → Nat) (s : Nat) : ∀ k, (∀ i, i < k → B (s + i) < 256) → pkW B s k < 256 ^ k
  | 0, _ => by simp [pkW]
  | k + 1, h => by
    have h1 := pkW_lt B s k (fun i hi => h i (by omega))
    have h2 := h k (by omega)
    rw [pkW, Nat.pow_succ]
    omega
/-- how long the word at s is -/
def wdL (B : Nat → Nat) (t s : Nat) : Nat := runTo smB B t s - s
/-- the word at s is the one that is packed so -/
def isW (B : Nat → Nat) (t s code : Nat) : Bool := decide (0 < wdL B t s) && decide (wdL B t s < 8) && decide (pkW B s (wdL B t s) = code)
theorem isW_iff {B : Nat → Nat} {t s code : Nat} : isW B t s code = true ↔ 0 < wdL B t s ∧ wdL B t s < 8 ∧ pkW B s (wdL B t s) = code := by
  unfold isW
  simp only [Bool.and_eq_true, decide_eq_true_eq, and_assoc]
theorem m_isWord10 (N : Nat) (hN : 20000 ≤ N) {B : Nat → Nat} {t s code : Nat} {μ : Mz} (hst : s ≤ t) (hT : TxM B t μ) (h2 : gi 2 μ = nI s) (hco : code < 2 ^ 64) : ∀ (d k n : Nat), k + d = wdL B t s → d < n → b12_isWord_10 N n (nL code) (nL (pkW B s (min k 8))) (nI k) μ = some (if isW B t s code = true then 1 else 0, μ) := by
  have ht := hT.1
  have hge := runTo_ge smB B t s
  have hle := runTo_le smB B hst
  have hsm : ∀ i, i < wdL B t s → smB (B (s + i)) = true := fun i hi => runTo_in smB B (t := t) (p := s) (by omega) (by unfold wdL at hi; omega)
  have hB : ∀ i, i < wdL B t s → B (s + i) < 128 := fun i hi => by have := sm_b (hsm i hi); omega
  intro d
  induction d with
  | zero =>
    intro k n hk hn
    obtain ⟨n, rfl⟩ : ∃ q, n = q + 1 := ⟨n - 1, by omega⟩
    have ek : k = wdL B t s := by omega
    have nd : ¬ (s + k < t ∧ smB (B (s + k)) = true) := by
      rw [ek, show s + wdL B t s = runTo smB B t s by unfold wdL; omega]
      exact fun z => runTo_end smB B (t := t) (p := s) z.1 z.2
    rw [b12_isWord_10, h2, nI_add, m_isLetter N hT (by unfold wdL at ek; omega), bd_s, ite10, if_neg nd]
    by_cases z0 : k = 0
    · rw [if_pos (show nI k ≤ 0 by subst z0; decide), if_neg (fun z => absurd (isW_iff.mp z).1 (by omega))]
    · rw [if_neg (nI_nle (by omega) (by unfold wdL at ek; omega))]
      by_cases z8 : 8 ≤ k
      · rw [if_pos (show (8 : Int32) ≤ nI k from nI_le (a := 8) (b := k) z8 (by unfold wdL at ek; omega)), if_neg (fun z => absurd (isW_iff.mp z).2.1 (by omega))]
      · rw [if_neg (show ¬ (8 : Int32) ≤ nI k from nI_ge (b := 8) (by omega) (by omega)), show min k 8 = k by omega]
        have hp := pkW_lt B s k (fun i hi => by have := hB i (by omega); omega)
        have hp2 : 256 ^ k ≤ 256 ^ 7 := Nat.pow_le_pow_right (by decide) (by omega)
        have hq : (256 : Nat) ^ 7 < 2 ^ 64 := by decide
        by_cases y : pkW B s k = code
        · rw [if_pos ((lg_cmp_eq _ _).mpr (by rw [y])), if_pos (isW_iff.mpr ⟨by omega, by omega, by rw [← ek]; exact y⟩)]
        · rw [if_neg (fun x => y ((nL_eq (by omega) hco).mp ((lg_cmp_eq _ _).mp x))), if_neg (fun x => y (by rw [ek]; exact (isW_iff.mp x).2.2))]
  | succ d ih =>
    intro k n hk hn
    obtain ⟨n, rfl⟩ : ∃ q, n = q + 1 := ⟨n - 1, by omega⟩
    have hkl : k < wdL B t s := by omega
    have hkt : s + k < t := by unfold wdL at hkl; omega
    rw [b12_isWord_10, h2, nI_add, m_isLetter N hT (by omega), bd_s, ite10, if_pos ⟨hkt, hsm k hkl⟩]
    have := ih (k + 1) n (by omega) (by omega)
    by_cases z8 : 8 ≤ k
    · rw [if_pos (show (8 : Int32) ≤ nI k from nI_le (a := 8) (b := k) z8 (by omega)), lt_s9, nI_1]
      rw [show min (k + 1) 8 = min k 8 by omega] at this
      exact this
    · have hp := pkW_lt B s k (fun i hi => by have := hB i (by omega); omega)
      have hp2 : 256 ^ k ≤ 256 ^ 7 := Nat.pow_le_pow_right (by decide) (by omega)
      have hq : (256 : Nat) ^ 7 = 2 ^ 56 := by decide
      have hb := hB k hkl
      rw [if_neg (show ¬ (8 : Int32) ≤ nI k from nI_ge (b := 8) (by omega) (by omega)), lt_s9, h2, nI_add, ck_t (inb_nI (show s + k < 400 by omega) (by decide)), clN (by omega), (hT.2.2 _ hkt).2, sx_lo _ hb, nL_b _ hb, lt_s9, lt_s9, show min k 8 = k by omega, nL_push (by omega) (by omega), nI_1]
      rw [show min (k + 1) 8 = k + 1 by omega, pkW] at this
      exact this
/-- is the next word the one that is packed so -/
theorem m_isWord (N : Nat) (hN : 20000 ≤ N) {B : Nat → Nat} {t p : Nat} {μ : Mz} (hT : TxM B t μ) (hp : p ≤ t) (h2 : gi 2 μ = nI p) (x : Int64) {code : Nat} (hx : x = nL code) (hco : code < 2 ^ 64) : p12_isWord N x μ = some (if isW B t (skp B t p) code = true then 1 else 0, si 2 (nI (skp B t p)) μ) := by
  subst hx
  have hs : skp B t p ≤ t := runTo_le _ _ hp
  have ht := hT.1
  unfold p12_isWord
  rw [m_see N hN hT hp h2, bd_s]
  have h := m_isWord10 N hN (s := skp B t p) hs (hT.si (k := 2) (by decide) (nI (skp B t p))) (gi_si _ _ _) hco (wdL B t (skp B t p)) 0 N (by omega) (by have := runTo_le smB B hs; unfold wdL; omega)
  exact h
