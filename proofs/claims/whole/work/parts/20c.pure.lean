/-! an edition, by S alone: the habit's slip, the pay, the print -/
theorem si_sa (k j : Nat) (v : Int32) (f : Nat → Int32) (μ : Mz) : si k v (sa j f μ) = sa j f (si k v μ) := rfl
theorem si_comm {k j : Nat} (h : k ≠ j) (v w : Int32) (μ : Mz) : si k v (si j w μ) = si j w (si k v μ) := by
  simp only [si]
  congr 1
  funext i
  simp only [upd]
  by_cases h1 : i = k
  · subst h1
    simp [h]
  · simp [h1]
/-- the reference with said S, owed for o, paid to p -/
def mP (μ : Mz) (S : Nat → Int32) (o p : Int32) : Mz := sa 7 S (si 14 o (si 15 p μ))
theorem mP_7 (μ : Mz) (S : Nat → Int32) (o p : Int32) : ga 7 (mP μ S o p) = S := ga_sa _ _ _
theorem mP_14 (μ : Mz) (S : Nat → Int32) (o p : Int32) : gi 14 (mP μ S o p) = o := by rw [mP, gi_sa, gi_si]
theorem mP_15 (μ : Mz) (S : Nat → Int32) (o p : Int32) : gi 15 (mP μ S o p) = p := by rw [mP, gi_sa, gi_si_ne (by decide), gi_si]
theorem mP_gi {k : Nat} (h : k ≠ 14) (h2 : k ≠ 15) (μ : Mz) (S : Nat → Int32) (o p : Int32) : gi k (mP μ S o p) = gi k μ := by rw [mP, gi_sa, gi_si_ne h, gi_si_ne h2]
theorem mP_sa (μ : Mz) (S T : Nat → Int32) (o p : Int32) : sa 7 T (mP μ S o p) = mP μ T o p := sa_sa _ _ _ _
theorem mP_s14 (μ : Mz) (S : Nat → Int32) (o p v : Int32) : si 14 v (mP μ S o p) = mP μ S v p := by rw [mP, si_sa, si_si]; rfl
theorem mP_s15 (μ : Mz) (S : Nat → Int32) (o p v : Int32) : si 15 v (mP μ S o p) = mP μ S o v := by rw [mP, si_sa, si_comm (by decide), si_si]; rfl
abbrev bitI (k : Nat) : Int32 := (1 : Int32) <<< (nI k &&& 31)
/-- letter k is paid, or owed for, if it is wrong -/
def payStep (k : Nat) (z : (Nat → Int32) × Int32 × Int32) : (Nat → Int32) × Int32 × Int32 :=
  if z.1 (13 + k) = z.1 (43 + k) then z
  else if z.1 11 < z.1 1 then ((if 999 ≤ z.1 12 then z.1 else upd z.1 12 (z.1 12 + 1)), z.2.1 ||| bitI k, z.2.2)
  else ((if 999 ≤ upd z.1 11 (z.1 11 - z.1 1) (23 + k) then upd z.1 11 (z.1 11 - z.1 1) else upd (upd z.1 11 (z.1 11 - z.1 1)) (23 + k) (upd z.1 11 (z.1 11 - z.1 1) (23 + k) + 1)), z.2.1, z.2.2 ||| bitI k)
def payF : Nat → (Nat → Int32) × Int32 × Int32 → (Nat → Int32) × Int32 × Int32
  | 0, z => z
  | n + 1, z => payStep n (payF n z)
theorem payStep_o {k j : Nat} (h11 : j ≠ 11) (h12 : j ≠ 12) (h23 : j ≠ 23 + k) (z : (Nat → Int32) × Int32 × Int32) : (payStep k z).1 j = z.1 j := by
  unfold payStep
  split
  · rfl
  · split
    · split
      · rfl
      · simp [upd, h12]
    · split
      · simp [upd, h11]
      · simp [upd, h11, h23]
theorem payF_o {j : Nat} (h11 : j ≠ 11) (h12 : j ≠ 12) : ∀ (n : Nat) (z : (Nat → Int32) × Int32 × Int32), (j < 23 ∨ 23 + n ≤ j) → (payF n z).1 j = z.1 j
  | 0, _, _ => rfl
  | n + 1, z, h => by
    rw [payF, payStep_o h11 h12 (by omega), payF_o h11 h12 n z (by omega)]
theorem m_payStep (N n : Nat) (μ : Mz) {c k : Nat} (z : (Nat → Int32) × Int32 × Int32) (hc : z.1 3 = nI c) (hc10 : c ≤ 10) (hk : k < c) : b12_pays_12 N (n + 1) (nI k) (mP μ z.1 z.2.1 z.2.2) = b12_pays_12 N n (nI (k + 1)) (mP μ (payStep k z).1 (payStep k z).2.1 (payStep k z).2.2) := by
  obtain ⟨S, o, p⟩ := z
  unfold payStep
  dsimp only at hc ⊢
  rw [b12_pays_12]
  have h3 : ga 7 (mP μ S o p) (3 : Int32).toNatClampNeg = nI c := by rw [mP_7]; exact hc
  rw [h3, if_neg (nI_ge hk (by omega)), m_isWrong N (by omega), bd_s, mP_7]
  by_cases hw : S (13 + k) = S (43 + k)
  · rw [if_pos hw, if_pos rfl, if_pos hw, lt_s9, nI_1]
  · rw [if_neg hw, if_neg (by decide), if_neg hw]
    have e11 : S (11 : Int32).toNatClampNeg = S 11 := rfl
    have e1 : S (1 : Int32).toNatClampNeg = S 1 := rfl
    have e12 : S (12 : Int32).toNatClampNeg = S 12 := rfl
    rw [e11, e1, e12]
    by_cases hp : S 11 < S 1
    · rw [if_pos hp, if_pos hp]
      by_cases h9 : 999 ≤ S 12
      · rw [if_pos h9, if_pos h9, b12_pays_132, lt_s9, lt_s9, mP_14, mP_s14, nI_1]
      · rw [if_neg h9, if_neg h9, lt_s9, lt_s9, b12_pays_132, lt_s9, lt_s9]
        have u12 : upd S (12 : Int32).toNatClampNeg (S 12 + 1) = upd S 12 (S 12 + 1) := rfl
        rw [u12, mP_sa, mP_14, mP_s14, nI_1]
    · rw [if_neg hp, if_neg hp, lt_s9, lt_s9, lt_s9]
      have u11 : upd S (11 : Int32).toNatClampNeg (S 11 - S 1) = upd S 11 (S 11 - S 1) := rfl
      rw [u11, mP_sa, show (23 : Int32) = nI 23 from rfl, nI_add, ck_t (inb_nI (show 23 + k < 129 by omega) (by decide)), mP_7, nI_clamp (show 23 + k < 2 ^ 31 by omega)]
      by_cases h9 : 999 ≤ upd S 11 (S 11 - S 1) (23 + k)
      · rw [if_pos h9, if_pos h9, b12_pays_93, lt_s9, lt_s9, mP_15, mP_s15, nI_1]
      · rw [if_neg h9, if_neg h9, lt_s9, ck_t (inb_nI (show 23 + k < 129 by omega) (by decide)), lt_s9, ck_t (inb_nI (show 23 + k < 129 by omega) (by decide)), lt_s9, b12_pays_93, lt_s9, lt_s9, nI_clamp (show 23 + k < 2 ^ 31 by omega), mP_sa, mP_15, mP_s15, nI_1]
theorem m_payLoop (N : Nat) (μ : Mz) {c : Nat} (z : (Nat → Int32) × Int32 × Int32) (hc : z.1 3 = nI c) (hc10 : c ≤ 10) : ∀ (d i n : Nat), i + d = c → d < n → b12_pays_12 N n (nI i) (mP μ (payF i z).1 (payF i z).2.1 (payF i z).2.2) = some (mP μ (payF c z).1 (payF c z).2.1 (payF c z).2.2) := by
  intro d
  induction d with
  | zero =>
    intro i n hi hn
    obtain ⟨n, rfl⟩ : ∃ m, n = m + 1 := ⟨n - 1, by omega⟩
    have e : i = c := by omega
    subst e
    rw [b12_pays_12]
    have h3 : ga 7 (mP μ (payF i z).1 (payF i z).2.1 (payF i z).2.2) (3 : Int32).toNatClampNeg = nI i := by
      rw [mP_7]
      exact (payF_o (j := 3) (by decide) (by decide) i z (by omega)).trans hc
    rw [h3, if_pos (nI_le (Nat.le_refl i) (by omega))]
  | succ d ih =>
    intro i n hi hn
    obtain ⟨n, rfl⟩ : ∃ m, n = m + 1 := ⟨n - 1, by omega⟩
    rw [m_payStep N n μ (payF i z) ((payF_o (by decide) (by decide) i z (by omega)).trans hc) hc10 (by omega)]
    exact ih (i + 1) n (by omega) (by omega)
/-- all who are wrong are paid, as far as it goes -/
theorem m_pays (N : Nat) (hN : 11 ≤ N) (μ : Mz) {c : Nat} (hc : ga 7 μ 3 = nI c) (hc10 : c ≤ 10) : p12_pays N μ = some (mP μ (payF c (ga 7 μ, 0, 0)).1 (payF c (ga 7 μ, 0, 0)).2.1 (payF c (ga 7 μ, 0, 0)).2.2) := by
  unfold p12_pays
  rw [lt_s9, lt_s9]
  have e : si 15 0 (si 14 0 μ) = mP μ (ga 7 μ) 0 0 := by
    unfold mP
    rw [← si_sa, ← si_sa, sa_ga, si_comm (by decide)]
  rw [e]
  exact m_payLoop N μ (ga 7 μ, 0, 0) hc hc10 c 0 N (by omega) (by omega)
/-- the least letter from i on that is put f, and isn't m, is put t -/
def slipG (S : Nat → Int32) (m f t : Int32) : Nat → Nat → (Nat → Int32)
  | 0, _ => S
  | d + 1, i => if nI i = m then slipG S m f t d (i + 1) else if S (13 + i) = f then upd S (13 + i) t else slipG S m f t d (i + 1)
theorem m_slipLoop (N : Nat) (μ : Mz) {c h e : Nat} (hc : ga 7 μ 3 = nI c) (hc10 : c ≤ 10) (hb : ga 7 μ 0 = 1) (hh : ga 7 μ 2 = nI h) (h12 : h ≤ 12) (he : ga 7 μ 10 = nI e) (he2 : e < 2 ^ 31) (m f : Int32) : ∀ (d i n : Nat), i + d = c → d < n → b12_slipsBy_45 N n m f (nI i) μ = some (sa 7 (slipG (ga 7 μ) m f (ga 7 μ (73 + 2 * (e % sRd h) + 1)) d i) μ) := by
  intro d
  induction d with
  | zero =>
    intro i n hi hn
    obtain ⟨n, rfl⟩ : ∃ m, n = m + 1 := ⟨n - 1, by omega⟩
    have e : i = c := by omega
    subst e
    rw [b12_slipsBy_45]
    have h3 : ga 7 μ (3 : Int32).toNatClampNeg = nI i := hc
    rw [h3, if_pos (nI_le (Nat.le_refl i) (by omega)), slipG, sa_ga]
  | succ d ih =>
    intro i n hi hn
    obtain ⟨n, rfl⟩ : ∃ m, n = m + 1 := ⟨n - 1, by omega⟩
    rw [b12_slipsBy_45]
    have h3 : ga 7 μ (3 : Int32).toNatClampNeg = nI c := hc
    rw [h3, if_neg (nI_ge (show i < c by omega) (by omega)), slipG]
    by_cases hm : nI i = m
    · rw [if_pos hm, if_pos hm, lt_s9, nI_1]
      exact ih (i + 1) n (by omega) (by omega)
    · rw [if_neg hm, if_neg hm, lt_s9, show (13 : Int32) = nI 13 from rfl, nI_add, ck_t (inb_nI (show 13 + i < 129 by omega) (by decide)), nI_clamp (show 13 + i < 2 ^ 31 by omega)]
      by_cases hf : ga 7 μ (13 + i) = f
      · have h10 : ga 7 μ (10 : Int32).toNatClampNeg = nI e := he
        rw [if_pos hf, if_pos hf, h10, m_toOn N μ hb hh h12 he2, bd_s, ck_t (inb_nI (show 13 + i < 129 by omega) (by decide)), lt_s9]
      · rw [if_neg hf, if_neg hf, lt_s9, nI_1]
        exact ih (i + 1) n (by omega) (by omega)
