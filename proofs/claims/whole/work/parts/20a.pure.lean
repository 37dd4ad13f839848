/-! PHASE 2: plain rows on states and on the reference's small functions -/
theorem gi_si (k : Nat) (v : Int32) (μ : Mz) : gi k (si k v μ) = v := by simp [gi, si, upd]
theorem gi_si_ne {k j : Nat} (h : k ≠ j) (v : Int32) (μ : Mz) : gi k (si j v μ) = gi k μ := by simp [gi, si, upd, h]
theorem ga_si (k j : Nat) (v : Int32) (μ : Mz) : ga k (si j v μ) = ga k μ := rfl
theorem gl_si (k j : Nat) (v : Int32) (μ : Mz) : gl k (si j v μ) = gl k μ := rfl
theorem gj_si (k j : Nat) (v : Int32) (μ : Mz) : gj k (si j v μ) = gj k μ := rfl
theorem gi_sa (k j : Nat) (f : Nat → Int32) (μ : Mz) : gi k (sa j f μ) = gi k μ := rfl
theorem ga_sa (k : Nat) (f : Nat → Int32) (μ : Mz) : ga k (sa k f μ) = f := by simp [ga, sa, va_up]
theorem ga_sa_ne {k j : Nat} (h : k ≠ j) (f : Nat → Int32) (μ : Mz) : ga k (sa j f μ) = ga k μ := by simp [ga, sa, va_up, h]
theorem gl_sa (k j : Nat) (f : Nat → Int32) (μ : Mz) : gl k (sa j f μ) = gl k μ := rfl
theorem gj_sa (k j : Nat) (f : Nat → Int32) (μ : Mz) : gj k (sa j f μ) = gj k μ := rfl
theorem gi_sl (k j : Nat) (f : Nat → Int64) (μ : Mz) : gi k (sl j f μ) = gi k μ := rfl
theorem ga_sl (k j : Nat) (f : Nat → Int64) (μ : Mz) : ga k (sl j f μ) = ga k μ := rfl
theorem gl_sl (k : Nat) (f : Nat → Int64) (μ : Mz) : gl k (sl k f μ) = f := by simp [gl, sl, va_up]
theorem gl_sl_ne {k j : Nat} (h : k ≠ j) (f : Nat → Int64) (μ : Mz) : gl k (sl j f μ) = gl k μ := by simp [gl, sl, va_up, h]
theorem gi_sj (k j : Nat) (v : Int64) (μ : Mz) : gi k (sj j v μ) = gi k μ := rfl
theorem ga_sj (k j : Nat) (v : Int64) (μ : Mz) : ga k (sj j v μ) = ga k μ := rfl
theorem gj_sj (k : Nat) (v : Int64) (μ : Mz) : gj k (sj k v μ) = v := by simp [gj, sj, va_up]
theorem si_si (k : Nat) (v w : Int32) (μ : Mz) : si k v (si k w μ) = si k v μ := by
  simp only [si]
  congr 1
  funext j
  by_cases h : j = k <;> simp [upd, h]
theorem sa_sa (k : Nat) (f g : Nat → Int32) (μ : Mz) : sa k f (sa k g μ) = sa k f μ := by
  simp only [sa]
  congr 2
  funext j
  by_cases h : j = k <;> simp [va_up, h]
theorem sa_ga (k : Nat) (μ : Mz) : sa k (ga k μ) μ = μ := by
  obtain ⟨a, b, c, d⟩ := μ
  simp only [sa, ga]
  congr 2
  funext j
  by_cases h : j = k <;> simp [va_up, h]
theorem inb_nI {k n : Nat} (h : k < n) (hn : n < 2 ^ 31) : inb (nI k) n = true := decide_eq_true (vp_in_nI h hn)
theorem ck_t {α : Type} {b : Bool} (h : b = true) (x : Option α) : ck b x = x := by subst h; rfl
theorem bd_s {α β γ : Type} (a : α) (b : β) (f : α → β → Option γ) : bd (some (a, b)) f = f a b := rfl
theorem bo_s {α γ : Type} (a : α) (f : α → Option γ) : bo (some a) f = f a := rfl
theorem lt_s9 {α β : Type} (v : α) (f : α → Option β) : lt v f = f v := rfl
/-- the number of the truth of c -/
def tI (c : Prop) [Decidable c] : Int32 := if c then 1 else 0
theorem m_isWrong (N : Nat) {k : Nat} (hk : k < 10) (μ : Mz) : p12_isWrong N (nI k) μ = some (if ga 7 μ (13 + k) = ga 7 μ (43 + k) then 0 else 1, μ) := by
  unfold p12_isWrong
  rw [show (13 : Int32) = nI 13 from rfl, show (43 : Int32) = nI 43 from rfl, nI_add, nI_add]
  simp only [lt_s9, ck_t (inb_nI (show 13 + k < 129 by omega) (by decide)), ck_t (inb_nI (show 43 + k < 129 by omega) (by decide)), nI_clamp (show 13 + k < 2 ^ 31 by omega), nI_clamp (show 43 + k < 2 ^ 31 by omega)]
  split <;> rfl
/-- the bits of those below n for which p holds, beside what there was -/
def bitsF (p : Nat → Bool) : Nat → Int32 → Int32
  | 0, a => a
  | n + 1, a => if p n then bitsF p n a ||| ((1 : Int32) <<< (nI n &&& 31)) else bitsF p n a
theorem bitsF_cong {p q : Nat → Bool} : ∀ {n : Nat} (a : Int32), (∀ k, k < n → p k = q k) → bitsF p n a = bitsF q n a
  | 0, _, _ => rfl
  | n + 1, a, h => by
    rw [bitsF, bitsF, h n (Nat.lt_succ_self n), bitsF_cong a (fun k hk => h k (Nat.lt_succ_of_lt hk))]
/-- which letters are wrong in the reference's state -/
def mWr (μ : Mz) (k : Nat) : Bool := decide (¬ ga 7 μ (13 + k) = ga 7 μ (43 + k))
theorem or_zero32 (x : Int32) : x ||| 0 = x := by
  apply Int32.toBitVec_inj.mp
  simp
theorem m_wrongLoop (N : Nat) (μ : Mz) {c : Nat} (hc : ga 7 μ 3 = nI c) (hc10 : c ≤ 10) : ∀ (d i n : Nat), i + d = c → d < n → b12_wrongOnes_4 N n (bitsF (mWr μ) i 0) (nI i) μ = some (bitsF (mWr μ) c 0, μ) := by
  intro d
  induction d with
  | zero =>
    intro i n hi hn
    obtain ⟨n, rfl⟩ : ∃ m, n = m + 1 := ⟨n - 1, by omega⟩
    have e : i = c := by omega
    subst e
    rw [b12_wrongOnes_4]
    have h3 : ga 7 μ (3 : Int32).toNatClampNeg = nI i := hc
    rw [h3, if_pos (nI_le (Nat.le_refl i) (by omega))]
  | succ d ih =>
    intro i n hi hn
    obtain ⟨n, rfl⟩ : ∃ m, n = m + 1 := ⟨n - 1, by omega⟩
    rw [b12_wrongOnes_4]
    have h3 : ga 7 μ (3 : Int32).toNatClampNeg = nI c := hc
    rw [h3, if_neg (nI_ge (show i < c by omega) (by omega)), m_isWrong N (by omega) μ, bd_s]
    have hs := ih (i + 1) n (by omega) (by omega)
    rw [bitsF] at hs
    by_cases hw : ga 7 μ (13 + i) = ga 7 μ (43 + i)
    · rw [if_pos hw, if_pos rfl, lt_s9, lt_s9, or_zero32, nI_1]
      simpa [mWr, hw] using hs
    · rw [if_neg hw, if_neg (by decide), lt_s9, lt_s9, nI_1]
      simpa [mWr, hw] using hs
theorem m_wrongOnes (N : Nat) (hN : 11 ≤ N) (μ : Mz) {c : Nat} (hc : ga 7 μ 3 = nI c) (hc10 : c ≤ 10) : p12_wrongOnes N μ = some (bitsF (mWr μ) c 0, μ) := m_wrongLoop N μ hc hc10 c 0 N (by omega) (by omega)
