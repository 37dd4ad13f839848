/-! the words as they are told, in the class and in the reference -/
/-- how many wrong ones below n hang on k -/
def ovF (S : Nat → Int32) (k : Nat) : Nat → Nat
  | 0 => 0
  | n + 1 => ovF S k n + if sWr S n && bt (S (33 + n)) k then 1 else 0
theorem ovF_le (S : Nat → Int32) (k : Nat) : ∀ n, ovF S k n ≤ n
  | 0 => Nat.le_refl 0
  | n + 1 => by
    have := ovF_le S k n
    rw [ovF]
    split <;> omega
def wS (S : Nat → Int32) (c h e k w : Nat) : Int64 := if w = 0 then (nI k).toInt64 else if w = 1 then (S (13 + k)).toInt64 else if w = 2 then (S (43 + k)).toInt64 else if w = 3 then (nI (ovF S k c)).toInt64 else if w = 4 then (bcI (sLoose S c)).toInt64 else if w = 5 then (bcI (sWrong S c)).toInt64 else if w = 6 then (S (23 + k)).toInt64 else if w = 7 then (S 11).toInt64 else if w = 8 then (S 12).toInt64 else if w = 9 then (S (73 + 2 * (e % sRd h))).toInt64 else if w = 10 then (S (73 + 2 * (e % sRd h) + 1)).toInt64 else (S 10).toInt64
theorem i0 : inb (0 : Int32) 12 = true := by decide
theorem i1 : inb (1 : Int32) 12 = true := by decide
theorem i2 : inb (2 : Int32) 12 = true := by decide
theorem i3 : inb (3 : Int32) 12 = true := by decide
theorem i4 : inb (4 : Int32) 12 = true := by decide
theorem i5 : inb (5 : Int32) 12 = true := by decide
theorem i6 : inb (6 : Int32) 12 = true := by decide
theorem i7 : inb (7 : Int32) 12 = true := by decide
theorem i8 : inb (8 : Int32) 12 = true := by decide
theorem i9 : inb (9 : Int32) 12 = true := by decide
theorem i10 : inb (10 : Int32) 12 = true := by decide
theorem i11 : inb (11 : Int32) 12 = true := by decide
theorem k0 : (0 : Int32).toNatClampNeg = 0 := by decide
theorem k1 : (1 : Int32).toNatClampNeg = 1 := by decide
theorem k2 : (2 : Int32).toNatClampNeg = 2 := by decide
theorem k3 : (3 : Int32).toNatClampNeg = 3 := by decide
theorem k4 : (4 : Int32).toNatClampNeg = 4 := by decide
theorem k5 : (5 : Int32).toNatClampNeg = 5 := by decide
theorem k6 : (6 : Int32).toNatClampNeg = 6 := by decide
theorem k7 : (7 : Int32).toNatClampNeg = 7 := by decide
theorem k8 : (8 : Int32).toNatClampNeg = 8 := by decide
theorem k9 : (9 : Int32).toNatClampNeg = 9 := by decide
theorem k10 : (10 : Int32).toNatClampNeg = 10 := by decide
theorem k11 : (11 : Int32).toNatClampNeg = 11 := by decide
theorem c_tellWords (N : Nat) {A : Nat → Nat} {κ : Cz} {b c h e : Nat} {S : Nat → Int32} (hs : Sh κ A) (ht : sSt κ A b) (hB : Bk κ A 21 S) (hS : St κ A b S) (hh : S 2 = nI h) (h12 : h ≤ 12) (he : S 10 = nI e) (he2 : e < 2 ^ 31) (k : Nat) : ∃ f, p_Press_tellWords N (A 40) (A b) (sWrong S c) (sLoose S c) κ = some (sal (A 41) f κ) ∧ ∀ w, w < 12 → w = 4 ∨ w = 5 ∨ 7 ≤ w → f w = wS S c h e k w := by
  have hr : 0 < sRd h ∧ sRd h ≤ 12 := by unfold sRd; split <;> omega
  have hm : e % sRd h < sRd h := Nat.mod_lt _ hr.1
  have hm12 : e % sRd h < 12 := by omega
  unfold p_Press_tellWords
  simp -implicitDefEqProofs only [hs.pr, hs.w20, ht, c_habitOf N hs ht hB hS hh h12 he he2, c_bitCount, bd_s, bo_s, ck_1, lt_s9, isK_al, fr_al, ln_al, fi_al, ai_al, al_al, if_true, i4, i5, i7, i8, i9, i10, i11, k4, k5, k7, k8, k9, k10, k11, inbT hm12 (by decide), clN (show e % sRd h < 2147483648 by omega), hS.1, hS.2.1, hS.2.2.1, hB.2.2.2.2.2.1 _ hm12, hB.2.2.2.2.2.2 _ hm12, sal_sal]
  refine ⟨_, rfl, ?_⟩
  intro w hw hw2
  match w, hw, hw2 with
  | 0, _, z => omega
  | 1, _, z => omega
  | 2, _, z => omega
  | 3, _, z => omega
  | 4, _, _ => simp [updL_at, wS]
  | 5, _, _ => simp [updL_at, wS]
  | 6, _, z => omega
  | 7, _, _ => simp [updL_at, wS]
  | 8, _, _ => simp [updL_at, wS]
  | 9, _, _ => simp [updL_at, wS]
  | 10, _, _ => simp [updL_at, wS]
  | 11, _, _ => simp [updL_at, wS]
  | q + 12, z, _ => omega
theorem c_tellWordsOf (N : Nat) (hN : 11 ≤ N) {A : Nat → Nat} {κ : Cz} {b c h e k : Nat} {S : Nat → Int32} (hs : Sh κ A) (ht : sSt κ A b) (hB : Bk κ A 21 S) (hS : St κ A b S) (hc : S 3 = nI c) (hc10 : c ≤ 10) (hk : k < 10) (hw0 : ∀ w, w < 12 → w = 4 ∨ w = 5 ∨ 7 ≤ w → al κ (A 41) w = wS S c h e k w) : ∃ f, p_Press_tellWordsOf N (A 40) (A b) (nI k) (sWrong S c) κ = some (sal (A 41) f κ) ∧ ∀ w, w < 12 → f w = wS S c h e k w := by
  have hl : fi κ (A 21) 2 = nI c := hB.2.2.1.trans hc
  have L : ∀ (d i n : Nat), i + d = c → d < n → ∃ f, b_Press_tellWordsOf_6 N n (A 40) (A b) (nI k) (sWrong S c) (nI (ovF S k i)) (nI i) κ = some (sal (A 41) f κ) ∧ ∀ w, w < 12 → f w = wS S c h e k w := by
    intro d
    induction d with
    | zero =>
      intro i n hi hn
      obtain ⟨n, rfl⟩ : ∃ m, n = m + 1 := ⟨n - 1, by omega⟩
      have e : i = c := by omega
      subst e
      rw [b_Press_tellWordsOf_6]
      simp -implicitDefEqProofs only [hs.pr, hs.w20, ht, ck_1, bo_s, hl, lt_s9, isK_al, fr_al, ln_al, fi_al, ai_al, al_al, if_true, i0, i1, i2, i3, i6, k0, k1, k2, k3, k6, inbT hk (by decide), clN (show k < 2147483648 by omega), hS.2.2.2.1 k hk, hS.2.2.2.2.1 k hk, hB.2.2.2.2.1 k hk, sal_sal]
      rw [if_pos (nI_le (Nat.le_refl i) (by omega))]
      refine ⟨_, rfl, ?_⟩
      intro w hw
      match w, hw with
      | 0, _ => simp [updL_at, wS]
      | 1, _ => simp [updL_at, wS]
      | 2, _ => simp [updL_at, wS]
      | 3, _ => simp [updL_at, wS]
      | 4, z => simp [updL_at]; exact hw0 4 z (by omega)
      | 5, z => simp [updL_at]; exact hw0 5 z (by omega)
      | 6, _ => simp [updL_at, wS]
      | 7, z => simp [updL_at]; exact hw0 7 z (by omega)
      | 8, z => simp [updL_at]; exact hw0 8 z (by omega)
      | 9, z => simp [updL_at]; exact hw0 9 z (by omega)
      | 10, z => simp [updL_at]; exact hw0 10 z (by omega)
      | 11, z => simp [updL_at]; exact hw0 11 z (by omega)
      | q + 12, z => omega
    | succ d ih =>
      intro i n hi hn
      obtain ⟨n, rfl⟩ : ∃ m, n = m + 1 := ⟨n - 1, by omega⟩
      have hi10 : i < 10 := by omega
      have hic : i < c := by omega
      have h1 := ih (i + 1) n (by omega) (by omega)
      rw [ovF] at h1
      rw [b_Press_tellWordsOf_6]
      have hbt : bt (sWrong S c) i = sWr S i := by
        rw [sWrong, bt_bitsF _ _ hc10]
        simp [hic]
      simp -implicitDefEqProofs only [hs.pr, hs.w20, ht, ck_1, bo_s, bd_s, hl, c_hasBit N _ (show i < 32 by omega), c_hasBit N _ (show k < 32 by omega), hbt, inbT hi10 (by decide), clN (show i < 2147483648 by omega), hS.2.2.2.2.2 i hi10, lt_s9, nI_1]
      rw [if_neg (nI_ge hic (by omega))]
      by_cases hw : sWr S i = true
      · rw [if_pos hw, if_neg (by decide)]
        by_cases hz : bt (S (33 + i)) k = true
        · rw [if_pos hz, if_neg (by decide)]
          simpa [hw, hz] using h1
        · rw [if_neg hz, if_pos rfl]
          simpa [hw, hz] using h1
      · rw [if_neg hw, if_pos rfl]
        simpa [hw] using h1
  exact L c 0 N (by omega) (by omega)
theorem bd_id {α β : Type} (x : Option (α × β)) : bd x (fun a b => some (a, b)) = x := by
  cases x with
  | none => rfl
  | some q => rfl
theorem m_sumOf (N : Nat) (hN : 11 ≤ N) {μ : Mz} {c h e k : Nat} (hc : ga 7 μ 3 = nI c) (hc10 : c ≤ 10) (hb : ga 7 μ 0 = 1) (hh : ga 7 μ 2 = nI h) (h12 : h ≤ 12) (he : ga 7 μ 10 = nI e) (he2 : e < 2 ^ 31) (hk : k < 10) : ∃ f, p12_sumOf N (nI k) μ = p12_summedBy N (gi 11 μ) (sl 1 f μ) ∧ ∀ w, w < 12 → f w = wS (ga 7 μ) c h e k w := by
  have L : ∀ (d i n : Nat), i + d = c → d < n → ∃ f, b12_sumOf_4 N n (nI k) (nI (ovF (ga 7 μ) k i)) (nI i) μ = p12_summedBy N (gi 11 μ) (sl 1 f μ) ∧ ∀ w, w < 12 → f w = wS (ga 7 μ) c h e k w := by
    intro d
    induction d with
    | zero =>
      intro i n hi hn
      obtain ⟨n, rfl⟩ : ∃ m, n = m + 1 := ⟨n - 1, by omega⟩
      have e1 : i = c := by omega
      subst e1
      rw [b12_sumOf_4, show ga 7 μ (3 : Int32).toNatClampNeg = nI i from hc, if_pos (nI_le (Nat.le_refl i) (by omega))]
      rw [show (13 : Int32) = nI 13 from rfl, show (43 : Int32) = nI 43 from rfl, show (23 : Int32) = nI 23 from rfl, nI_add, nI_add, nI_add]
      have hl : ∀ f, p12_looseOnes N (sl 1 f μ) = some (sLoose (ga 7 μ) i, sl 1 f μ) := fun f => m_loose N hN (sl 1 f μ) hc hc10
      have hwr : ∀ f, p12_wrongOnes N (sl 1 f μ) = some (sWrong (ga 7 μ) i, sl 1 f μ) := fun f => m_wrong N hN (sl 1 f μ) hc hc10
      have hf : ∀ f, p12_fromOn N (nI e) (sl 1 f μ) = some (ga 7 μ (73 + 2 * (e % sRd h)), sl 1 f μ) := fun f => m_fromOn N (sl 1 f μ) hb hh h12 he2
      have hto : ∀ f, p12_toOn N (nI e) (sl 1 f μ) = some (ga 7 μ (73 + 2 * (e % sRd h) + 1), sl 1 f μ) := fun f => m_toOn N (sl 1 f μ) hb hh h12 he2
      have b1 : p12_bits N (sLoose (ga 7 μ) i) = some (bcI (sLoose (ga 7 μ) i)) := m_bits N hN _ hc10
      have b2 : p12_bits N (sWrong (ga 7 μ) i) = some (bcI (sWrong (ga 7 μ) i)) := m_bits N hN _ hc10
      simp -implicitDefEqProofs only [lt_s9, ck_1, bo_s, bd_s, bd_id, inbT (show 13 + k < 129 by omega) (by decide), inbT (show 43 + k < 129 by omega) (by decide), inbT (show 23 + k < 129 by omega) (by decide), clN (show 13 + k < 2147483648 by omega), clN (show 43 + k < 2147483648 by omega), clN (show 23 + k < 2147483648 by omega), ga_sl, gl_sl, gi_sl, sl_sl, k0, k1, k2, k3, k4, k5, k6, k7, k8, k9, k10, k11, hl, hwr, b1, b2, he, hf, hto]
      refine ⟨_, rfl, ?_⟩
      intro w hw
      match w, hw with
      | 0, _ => simp [updL_at, wS]
      | 1, _ => simp [updL_at, wS]
      | 2, _ => simp [updL_at, wS]
      | 3, _ => simp [updL_at, wS]
      | 4, z => simp [updL_at, wS]
      | 5, z => simp [updL_at, wS]
      | 6, _ => simp [updL_at, wS]
      | 7, z => simp [updL_at, wS]
      | 8, z => simp [updL_at, wS]
      | 9, z => simp [updL_at, wS]
      | 10, z => simp [updL_at, wS]
      | 11, z => simp [updL_at, wS, he]
      | q + 12, z => omega
    | succ d ih =>
      intro i n hi hn
      obtain ⟨n, rfl⟩ : ∃ m, n = m + 1 := ⟨n - 1, by omega⟩
      have h1 := ih (i + 1) n (by omega) (by omega)
      rw [ovF] at h1
      rw [b12_sumOf_4, show ga 7 μ (3 : Int32).toNatClampNeg = nI c from hc, if_neg (nI_ge (show i < c by omega) (by omega)), m_isWrong N (by omega) μ, bd_s]
      rw [show (33 : Int32) = nI 33 from rfl, nI_add]
      simp -implicitDefEqProofs only [lt_s9, ck_1, bo_s, inbT (show 33 + i < 129 by omega) (by decide), clN (show 33 + i < 2147483648 by omega), m_isOf N _ (show k < 32 by omega), nI_1, Int32.add_zero]
      by_cases hw : ga 7 μ (13 + i) = ga 7 μ (43 + i)
      · rw [if_pos hw, if_pos rfl]
        simpa [sWr, hw] using h1
      · rw [if_neg hw, if_neg (by decide)]
        by_cases hz : bt (ga 7 μ (33 + i)) k = true
        · rw [if_pos hz, if_neg (by decide)]
          simpa [sWr, hw, hz] using h1
        · rw [if_neg hz, if_pos rfl]
          simpa [sWr, hw, hz] using h1
  exact L c 0 N (by omega) (by omega)
