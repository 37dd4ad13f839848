/-! bits (the first rows began as the kit's BITS.to-paste), bit counts, the least bit -/
def bt (x : Int32) (i : Nat) : Bool := x.toBitVec.getLsbD i
theorem b_ext {x y : Int32} (h : ∀ i, i < 32 → bt x i = bt y i) : x = y := Int32.toBitVec_inj.mp (BitVec.eq_of_getLsbD_eq (fun i hi => h i hi))
theorem b_or (x y : Int32) (i : Nat) : bt (x ||| y) i = (bt x i || bt y i) := by unfold bt; rw [Int32.toBitVec_or, BitVec.getLsbD_or]
theorem b_and (x y : Int32) (i : Nat) : bt (x &&& y) i = (bt x i && bt y i) := by unfold bt; rw [Int32.toBitVec_and, BitVec.getLsbD_and]
theorem b_xor (x y : Int32) (i : Nat) : bt (x ^^^ y) i = (bt x i ^^ bt y i) := by unfold bt; rw [Int32.toBitVec_xor, BitVec.getLsbD_xor]
theorem b_big {x : Int32} {i : Nat} (h : 32 ≤ i) : bt x i = false := BitVec.getLsbD_of_ge _ _ h
theorem b_255 (i : Nat) : bt 255 i = decide (i < 8) := by
  rcases Nat.lt_or_ge i 32 with h | h
  · exact (by decide +kernel : ∀ i, i < 32 → bt 255 i = decide (i < 8)) i h
  · rw [b_big h, decide_eq_false (by omega)]
theorem b_65535 (i : Nat) : bt 65535 i = decide (i < 16) := by
  rcases Nat.lt_or_ge i 32 with h | h
  · exact (by decide +kernel : ∀ i, i < 32 → bt 65535 i = decide (i < 16)) i h
  · rw [b_big h, decide_eq_false (by omega)]
theorem b_m1 : ∀ i, i < 32 → bt (-1) i = true := by decide +kernel
theorem b_0 (i : Nat) : bt 0 i = false := BitVec.getLsbD_zero
theorem s_l : ∀ n, n < 32 → ((nI n &&& 31).toBitVec.smod 32).toNat = n := by decide +kernel
theorem s_u : ∀ n, n < 32 → (((nI n).toUInt32 &&& Int32.toUInt32 31).toBitVec % 32).toNat = n := by decide +kernel
theorem b_shl (n : Nat) (hn : n < 32) (x : Int32) {i : Nat} (hi : i < 32) : bt (x <<< (nI n &&& 31)) i = (decide (n ≤ i) && bt x (i - n)) := by
  unfold bt
  rw [Int32.toBitVec_shiftLeft]
  show (x.toBitVec <<< ((nI n &&& 31).toBitVec.smod 32).toNat).getLsbD i = _
  rw [s_l n hn, BitVec.getLsbD_shiftLeft]
  rcases Nat.lt_or_ge i n with h | h
  · simp [h, Nat.not_le.mpr h]
  · simp [hi, h, Nat.not_lt.mpr h]
theorem b_ushr (n : Nat) (hn : n < 32) (x : Int32) (i : Nat) : bt ((x.toUInt32 >>> ((nI n).toUInt32 &&& Int32.toUInt32 31)).toInt32) i = bt x (n + i) := by
  show (x.toUInt32 >>> ((nI n).toUInt32 &&& Int32.toUInt32 31)).toBitVec.getLsbD i = x.toUInt32.toBitVec.getLsbD (n + i)
  rw [UInt32.toBitVec_shiftRight]
  show (x.toUInt32.toBitVec >>> (((nI n).toUInt32 &&& Int32.toUInt32 31).toBitVec % 32).toNat).getLsbD i = _
  rw [s_u n hn, BitVec.getLsbD_ushiftRight]
theorem b_sshr (n : Nat) (hn : n < 32) (x : Int32) {i : Nat} (hi : i < 32) : bt (x >>> (nI n &&& 31)) i = if n + i < 32 then bt x (n + i) else bt x 31 := by
  unfold bt
  rw [Int32.toBitVec_shiftRight]
  show (x.toBitVec.sshiftRight ((nI n &&& 31).toBitVec.smod 32).toNat).getLsbD i = _
  rw [s_l n hn, BitVec.getLsbD_sshiftRight, BitVec.msb_eq_getLsbD_last]
  simp [hi]
theorem bt_1 : ∀ i, i < 32 → bt 1 i = decide (i = 0) := by decide +kernel
theorem and1_0 (y : Int32) : (y &&& 1) = 0 ↔ bt y 0 = false := by
  constructor
  · intro h
    have := congrArg (fun z => bt z 0) h
    simpa [b_and, bt_1 0 (by decide), b_0] using this
  · intro h
    refine b_ext (fun i hi => ?_)
    rw [b_and, bt_1 i hi, b_0]
    by_cases z : i = 0
    · subst z
      simp [h]
    · simp [z]
theorem and1_1 (y : Int32) : (y &&& 1) = 1 ↔ bt y 0 = true := by
  constructor
  · intro h
    have := congrArg (fun z => bt z 0) h
    simpa [b_and, bt_1 0 (by decide)] using this
  · intro h
    refine b_ext (fun i hi => ?_)
    rw [b_and, bt_1 i hi]
    by_cases z : i = 0
    · subst z
      simp [h]
    · simp [z]
theorem c_hasBit (N : Nat) (x : Int32) {i : Nat} (hi : i < 32) (κ : Cz) : p_ErrataRow_hasBit N x (nI i) κ = some (if bt x i = true then 1 else 0, κ) := by
  unfold p_ErrataRow_hasBit
  have h := b_ushr i hi x 0
  rw [Nat.add_zero] at h
  by_cases z : bt x i = true
  · rw [if_neg (fun q => by rw [and1_0, h, z] at q; cases q), if_pos z]
  · rw [if_pos ((and1_0 _).mpr (by rw [h]; simpa using z)), if_neg z]
theorem m_isOf (N : Nat) (x : Int32) {i : Nat} (hi : i < 32) : p12_isOf N x (nI i) = some (if bt x i = true then 1 else 0) := by
  unfold p12_isOf
  have h := b_sshr i hi x (i := 0) (by decide)
  rw [Nat.add_zero, if_pos hi] at h
  by_cases z : bt x i = true
  · rw [if_pos ((and1_1 _).mpr (by rw [h]; exact z)), if_pos z]
  · rw [if_neg (fun q => z (by rw [and1_1, h] at q; exact q)), if_neg z]
theorem bt_bitI : ∀ n, n < 32 → ∀ i, i < 32 → bt (bitI n) i = decide (i = n) := by decide +kernel
theorem bt_bitsF (p : Nat → Bool) : ∀ (n : Nat), n ≤ 10 → ∀ i, bt (bitsF p n 0) i = (decide (i < n) && p i)
  | 0, _, i => by rw [bitsF, b_0]; simp
  | n + 1, h, i => by
    rw [bitsF]
    have ih := bt_bitsF p n (by omega) i
    by_cases hi : i < 32
    · by_cases hp : p n = true
      · rw [if_pos hp, b_or, ih, bt_bitI n (by omega) i hi]
        by_cases e : i = n
        · subst e
          simp [hp]
        · have : (i < n + 1) ↔ i < n := by omega
          simp [e, this]
      · rw [if_neg hp, ih]
        by_cases e : i = n
        · subst e
          simp [hp]
        · have : (i < n + 1) ↔ i < n := by omega
          simp [this]
    · rw [b_big (by omega)]
      have : ¬ i < n + 1 := by omega
      simp [this]
def bN (p : Nat → Bool) : Nat → Nat
  | 0 => 0
  | n + 1 => if p n then bN p n + 2 ^ n else bN p n
theorem bN_lt (p : Nat → Bool) : ∀ n, bN p n < 2 ^ n
  | 0 => by simp [bN]
  | n + 1 => by
    have := bN_lt p n
    rw [bN, Nat.pow_succ]
    split <;> omega
theorem or_add : ∀ n, n < 10 → ∀ a, a < 2 ^ n → nI a ||| bitI n = nI (a + 2 ^ n) := by decide +kernel
theorem bitsF_nI (p : Nat → Bool) : ∀ n, n ≤ 10 → bitsF p n 0 = nI (bN p n)
  | 0, _ => rfl
  | n + 1, h => by
    rw [bitsF, bN, bitsF_nI p n (by omega)]
    split
    · exact or_add n (by omega) _ (bN_lt p n)
    · rfl
theorem bitsF_1024 (p : Nat → Bool) {n : Nat} (h : n ≤ 10) : ∃ v, v < 1024 ∧ bitsF p n 0 = nI v := ⟨bN p n, Nat.lt_of_lt_of_le (bN_lt p n) (Nat.pow_le_pow_right (by decide) h), bitsF_nI p n h⟩
/-- how many bits, as the JDK counts them -/
def bcI (a : Int32) : Int32 := ((p_Integer_bitCount 0 a κE).map (fun z => z.1)).getD 0
theorem c_bitCount (N : Nat) (a : Int32) (κ : Cz) : p_Integer_bitCount N a κ = some (bcI a, κ) := rfl
theorem m_bits_N (N : Nat) : ∀ (n : Nat) (a b : Int32), b12_bits_4 N n a b = b12_bits_4 0 n a b
  | 0, _, _ => rfl
  | n + 1, a, b => by
    rw [b12_bits_4, b12_bits_4]
    split
    · rfl
    · exact m_bits_N N n _ _
theorem m_bits_up : ∀ (n : Nat) (a b r : Int32) (m : Nat), b12_bits_4 0 n a b = some r → n ≤ m → b12_bits_4 0 m a b = some r
  | 0, _, _, _, _, h, _ => by cases h
  | n + 1, a, b, r, m, h, hm => by
    obtain ⟨m, rfl⟩ : ∃ q, m = q + 1 := ⟨m - 1, by omega⟩
    rw [b12_bits_4] at h ⊢
    split at h
    · rw [if_pos (by assumption)]; exact h
    · rw [if_neg (by assumption)]; exact m_bits_up n _ _ _ _ h (by omega)
theorem m_bits_1024 : ∀ v, v < 1024 → b12_bits_4 0 11 0 (nI v) = some (bcI (nI v)) := by decide +kernel
theorem m_bits (N : Nat) (hN : 11 ≤ N) (p : Nat → Bool) {n : Nat} (h : n ≤ 10) : p12_bits N (bitsF p n 0) = some (bcI (bitsF p n 0)) := by
  obtain ⟨v, hv, e⟩ := bitsF_1024 p h
  rw [e]
  unfold p12_bits
  rw [m_bits_N]
  exact m_bits_up 11 _ _ _ _ (m_bits_1024 v hv) hN
theorem bcI_1024 : ∀ v, v < 1024 → ∃ k, k < 11 ∧ bcI (nI v) = nI k := by decide +kernel
theorem bcI_F (p : Nat → Bool) {n : Nat} (h : n ≤ 10) : ∃ k, k < 11 ∧ bcI (bitsF p n 0) = nI k := by
  obtain ⟨v, hv, e⟩ := bitsF_1024 p h
  rw [e]
  exact bcI_1024 v hv
/-- the least bit, as the JDK finds it -/
def tzI (a : Int32) : Int32 := ((p_Integer_numberOfTrailingZeros 0 a κE).map (fun z => z.1)).getD 0
theorem c_tz (N : Nat) (a : Int32) (κ : Cz) : p_Integer_numberOfTrailingZeros N a κ = some (tzI a, κ) := by
  unfold tzI p_Integer_numberOfTrailingZeros
  simp only [lt_s9]
  split
  · split
    · unfold b_Integer_numberOfTrailingZeros_34
      simp only [lt_s9]
      split
      · unfold b_Integer_numberOfTrailingZeros_49
        simp only [lt_s9]
        split
        · unfold b_Integer_numberOfTrailingZeros_62
          simp only [lt_s9]
          split <;> rfl
        · unfold b_Integer_numberOfTrailingZeros_62
          simp only [lt_s9]
          split <;> rfl
      · unfold b_Integer_numberOfTrailingZeros_49
        simp only [lt_s9]
        split
        · unfold b_Integer_numberOfTrailingZeros_62
          simp only [lt_s9]
          split <;> rfl
        · unfold b_Integer_numberOfTrailingZeros_62
          simp only [lt_s9]
          split <;> rfl
    · unfold b_Integer_numberOfTrailingZeros_34
      simp only [lt_s9]
      split
      · unfold b_Integer_numberOfTrailingZeros_49
        simp only [lt_s9]
        split
        · unfold b_Integer_numberOfTrailingZeros_62
          simp only [lt_s9]
          split <;> rfl
        · unfold b_Integer_numberOfTrailingZeros_62
          simp only [lt_s9]
          split <;> rfl
      · unfold b_Integer_numberOfTrailingZeros_49
        simp only [lt_s9]
        split
        · unfold b_Integer_numberOfTrailingZeros_62
          simp only [lt_s9]
          split <;> rfl
        · unfold b_Integer_numberOfTrailingZeros_62
          simp only [lt_s9]
          split <;> rfl
  · rfl
theorem tz_1024 : ∀ v, v < 1024 → v ≠ 0 → ∃ k, k < 10 ∧ tzI (nI v) = nI k ∧ bt (nI v) k = true ∧ ∀ j, j < k → bt (nI v) j = false := by decide +kernel
theorem tz_F (p : Nat → Bool) {n : Nat} (h : n ≤ 10) (h0 : bitsF p n 0 ≠ 0) : ∃ k, k < n ∧ tzI (bitsF p n 0) = nI k ∧ p k = true ∧ ∀ j, j < k → p j = false := by
  obtain ⟨v, hv, e⟩ := bitsF_1024 p h
  obtain ⟨k, h1, h2, h3, h4⟩ := tz_1024 v hv (fun z => h0 (by rw [e, z]; rfl))
  rw [← e] at h2 h3 h4
  rw [bt_bitsF p n h] at h3
  simp only [Bool.and_eq_true, decide_eq_true_eq] at h3
  refine ⟨k, h3.1, h2, h3.2, fun j hj => ?_⟩
  have := h4 j hj
  rw [bt_bitsF p n h] at this
  have hn : j < n := by omega
  simpa [hn] using this
theorem bitsF_0 (p : Nat → Bool) {n : Nat} (h : n ≤ 10) : bitsF p n 0 = 0 ↔ ∀ k, k < n → p k = false := by
  constructor
  · intro z k hk
    have := bt_bitsF p n h k
    rw [z, b_0] at this
    simpa [hk] using this.symm
  · intro z
    refine b_ext (fun i _ => ?_)
    rw [bt_bitsF p n h, b_0]
    by_cases hi : i < n
    · simp [z i hi]
    · simp [hi]
theorem m_leastLoop (N : Nat) (x : Int32) {k : Nat} (hk : k < 32) (h1 : bt x k = true) (h2 : ∀ j, j < k → bt x j = false) : ∀ (d i n : Nat), i + d = k → d < n → b12_leastOf_2 N n x (nI i) = some (nI k) := by
  intro d
  induction d with
  | zero =>
    intro i n hi hn
    obtain ⟨n, rfl⟩ : ∃ m, n = m + 1 := ⟨n - 1, by omega⟩
    have e : i = k := by omega
    subst e
    rw [b12_leastOf_2, m_isOf N x hk, bo_s, if_pos h1, if_neg (by decide)]
  | succ d ih =>
    intro i n hi hn
    obtain ⟨n, rfl⟩ : ∃ m, n = m + 1 := ⟨n - 1, by omega⟩
    rw [b12_leastOf_2, m_isOf N x (by omega), bo_s, if_neg (show ¬ bt x i = true by rw [h2 i (by omega)]; decide), if_pos rfl, lt_s9, nI_1]
    exact ih (i + 1) n (by omega) (by omega)
/-- the least of a set that isn't empty: both find the same -/
theorem least_both (N : Nat) (hN : 11 ≤ N) (p : Nat → Bool) {n : Nat} (h : n ≤ 10) (h0 : bitsF p n 0 ≠ 0) : p12_leastOf N (bitsF p n 0) = some (tzI (bitsF p n 0)) := by
  obtain ⟨k, h1, h2, h3, h4⟩ := tz_F p h h0
  rw [h2]
  unfold p12_leastOf
  refine m_leastLoop N _ (show k < 32 by omega) ?_ ?_ k 0 N (by omega) (by omega)
  · rw [bt_bitsF p n h]
    simp [h1, h3]
  · intro j hj
    rw [bt_bitsF p n h]
    simp [h4 j hj]
