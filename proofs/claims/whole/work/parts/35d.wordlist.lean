/-! words: the class's list of them -/
def WS (i : Nat) : Nat := ([108,101,116,116,101,114,32,112,117,116,32,109,101,97,110,116,32,111,118,101,114,32,108,111,111,115,101,32,119,114,111,110,103,32,112,97,105,100,32,112,117,114,115,101,32,111,119,101,100,32,102,114,111,109,32,116,111,32,101,100,105,116,105,111,110,32,98,111,111,107,32,104,97,98,105,116,32,104,97,110,103,115,32,109,101,110,100,32,105,102,32,111,114,32,97,110,100,32,110,111,116,32] : List Nat).getD i 0
theorem ws_at : ∀ i, i < 102 → (((((bytS.getD 0 []).getD i 0) &&& 255).toUInt32 % 65536).toInt32 = nI (WS i) ∧ ich (nI (WS i)) = true ∧ WS i < 128) := by decide +kernel
theorem c_charAt (N : Nat) {i : Nat} (hi : i < 102) (κ : Cz) : p_String_charAt N 0 (nI i) κ = some (nI (WS i), κ) := by
  obtain ⟨h1, h2, -⟩ := ws_at i hi
  unfold p_String_charAt p_String_isLatin1 p_StringLatin1_charAt p_String_checkIndex p_Preconditions_checkIndex
  rw [show decide (0 < 2) = true from rfl, ck_1, if_neg ne10, ck_1, if_pos rfl, bd_s, if_neg ne10, ck_1, if_neg (nI_pos (by omega)), if_pos (show nI i < nI (lenS.getD 0 0) from (nI_ltI (by omega) (by decide)).mpr hi), bd_s, bo_s, ck_t (show inb (nI i) (lenS.getD 0 0) = true from inb_nI hi (by decide)), clN (by omega), h1, bd_s, h2, ck_1]
theorem c_wlen (N : Nat) (κ : Cz) : p_String_length N 0 κ = some (nI 102, κ) := rfl
/-- the class holds the text -/
def TxC (B : Nat → Nat) (t : Nat) (A : Nat → Nat) (κ : Cz) : Prop := t ≤ 400 ∧ isK κ (A 1) 20 = true ∧ ln κ (A 1) = 400 ∧ ∀ i, i < t → B i < 256 ∧ ai κ (A 1) i = nI (B i)
def spl (B : Nat → Nat) (s st : Nat) : Nat → Nat → Bool
  | 0, _ => true
  | n + 1, j => decide (B (s + (j - st)) = WS j) && spl B s st n (j + 1)
theorem c_isSpelt (N : Nat) (hN : 20000 ≤ N) {B : Nat → Nat} {t s st i : Nat} {A : Nat → Nat} {κ : Cz} (hT : TxC B t A κ) (hi : i ≤ 102) (hst : st ≤ i) (hs : s + (i - st) ≤ t) : p_Tokens_isSpelt N (A 1) (nI s) (nI st) (nI i) κ = some (if spl B s st (i - st) st = true then 1 else 0, κ) := by
  obtain ⟨ht, k1, l1, hB⟩ := hT
  have L : ∀ (d j n : Nat), j + d = i → d < n → st ≤ j → b_Tokens_isSpelt_3 N n (A 1) (nI s) (nI st) (nI i) (nI j) κ = some (if spl B s st d j = true then 1 else 0, κ) := by
    intro d
    induction d with
    | zero =>
      intro j n hj hn h3
      obtain ⟨n, rfl⟩ : ∃ q, n = q + 1 := ⟨n - 1, by omega⟩
      rw [b_Tokens_isSpelt_3, if_pos (nI_le (by omega) (by omega))]
      rfl
    | succ d ih =>
      intro j n hj hn h3
      obtain ⟨n, rfl⟩ : ∃ q, n = q + 1 := ⟨n - 1, by omega⟩
      have hv : s + (j - st) < t := by omega
      have hw := (ws_at j (by omega)).2.2
      rw [b_Tokens_isSpelt_3, if_neg (nI_ge (show j < i by omega) (by omega)), lt_s9, nI_add, nI_subN (by omega), show s + j - st = s + (j - st) by omega, k1, ck_1, l1, ck_t (inb_nI (show s + (j - st) < 400 by omega) (by decide)), c_charAt N (by omega), bd_s, clN (by omega), (hB _ hv).2, spl]
      by_cases z : B (s + (j - st)) = WS j
      · rw [if_pos (by rw [z]), lt_s9, nI_1, ih (j + 1) n (by omega) (by omega) (by omega), decide_eq_true z, Bool.true_and]
      · rw [if_neg (fun y => z ((nI_eq (by have := (hB _ hv).1; omega) (by omega)).mp y)), decide_eq_false z, Bool.false_and]
        rfl
  exact L (i - st) st N (by omega) (by omega) (Nat.le_refl _)
def wo (B : Nat → Nat) (s L : Nat) : Nat → Nat → Nat → Nat → Int32
  | 0, _, _, _ => -1
  | n + 1, w, st, i => if 102 ≤ i then -1 else if WS i = 32 then (if i - st = L ∧ spl B s st (i - st) st = true then nI w else wo B s L n (w + 1) (i + 1) (i + 1)) else wo B s L n w st (i + 1)
theorem c_wordOf (N : Nat) (hN : 20000 ≤ N) {B : Nat → Nat} {t s L : Nat} {A : Nat → Nat} {κ : Cz} (hT : TxC B t A κ) (hs : s + L ≤ t) : p_Tokens_wordOf N (A 1) (nI s) (nI (s + L)) κ = some (wo B s L 103 0 0 0, κ) := by
  have ht := hT.1
  have M : ∀ (d i n w st : Nat), i + d = 102 → d < n → st ≤ i → b_Tokens_wordOf_8 N n (A 1) (nI s) (nI (s + L)) (nI w) (nI st) (nI i) κ = some (wo B s L (d + 1) w st i, κ) := by
    intro d
    induction d with
    | zero =>
      intro i n w st hi hn hst
      obtain ⟨n, rfl⟩ : ∃ q, n = q + 1 := ⟨n - 1, by omega⟩
      have e : i = 102 := by omega
      subst e
      rw [b_Tokens_wordOf_8, c_wlen, bd_s, if_pos (nI_le (Nat.le_refl _) (by omega)), wo, if_pos (Nat.le_refl _)]
    | succ d ih =>
      intro i n w st hi hn hst
      obtain ⟨n, rfl⟩ : ∃ q, n = q + 1 := ⟨n - 1, by omega⟩
      have hw := (ws_at i (by omega)).2.2
      rw [b_Tokens_wordOf_8, c_wlen, bd_s, if_neg (nI_ge (show i < 102 by omega) (by omega)), c_charAt N (by omega), bd_s, wo, if_neg (show ¬ 102 ≤ i by omega)]
      simp only [lt_s9, nI_1]
      by_cases z : WS i = 32
      · rw [if_pos (show nI (WS i) = 32 by rw [z]; rfl), if_pos z, nI_subN hst, nI_subN (by omega), show s + L - s = L by omega]
        by_cases y : i - st = L
        · rw [if_pos (by rw [y]), c_isSpelt N hN hT (by omega) hst (by omega), bd_s, ite10]
          by_cases x : spl B s st (i - st) st = true
          · rw [if_pos x, if_pos ⟨y, x⟩]
          · rw [if_neg x, if_neg (fun q => x q.2)]
            exact ih (i + 1) n (w + 1) (i + 1) (by omega) (by omega) (Nat.le_refl _)
        · rw [if_neg (fun q => y ((nI_eq (by omega) (by omega)).mp q)), if_neg (fun q => y q.1)]
          exact ih (i + 1) n (w + 1) (i + 1) (by omega) (by omega) (Nat.le_refl _)
      · rw [if_neg (show ¬ nI (WS i) = 32 from fun q => z ((nI_eq (b := 32) (by omega) (by omega)).mp q)), if_neg z]
        exact ih (i + 1) n w st (by omega) (by omega) (by omega)
  exact M 102 0 N 0 0 (by omega) (by omega) (Nat.le_refl _)
theorem wo_go (B : Nat → Nat) (s L w st e n : Nat) (he : e < 102) : ∀ d i, i + d = e → (∀ j, i ≤ j → j < e → WS j ≠ 32) → wo B s L (n + d) w st i = wo B s L n w st e
  | 0, i, h, _ => by rw [show i = e by omega]; rfl
  | d + 1, i, h, hb => by
    rw [show n + (d + 1) = (n + d) + 1 by omega, wo, if_neg (by omega), if_neg (hb i (Nat.le_refl _) (by omega))]
    exact wo_go B s L w st e n he d (i + 1) (by omega) (fun j h1 h2 => hb j (by omega) h2)
theorem wo_word (B : Nat → Nat) (s L : Nat) {w st e n m : Nat} (hm : m = n + 1 + (e - st)) (he : e < 102) (hst : st ≤ e) (hb : ∀ j, j < e → st ≤ j → WS j ≠ 32) (h32 : WS e = 32) : wo B s L m w st st = if e - st = L ∧ spl B s st (e - st) st = true then nI w else wo B s L n (w + 1) (e + 1) (e + 1) := by
  rw [hm, wo_go B s L w st e (n + 1) he (e - st) st (by omega) (fun j h1 h2 => hb j h2 h1), wo, if_neg (by omega), if_pos h32]
theorem wo_all (B : Nat → Nat) (s L : Nat) : wo B s L 103 0 0 0 = if 6 = L ∧ spl B s 0 6 0 = true then nI 0 else if 3 = L ∧ spl B s 7 3 7 = true then nI 1 else if 5 = L ∧ spl B s 11 5 11 = true then nI 2 else if 4 = L ∧ spl B s 17 4 17 = true then nI 3 else if 5 = L ∧ spl B s 22 5 22 = true then nI 4 else if 5 = L ∧ spl B s 28 5 28 = true then nI 5 else if 4 = L ∧ spl B s 34 4 34 = true then nI 6 else if 5 = L ∧ spl B s 39 5 39 = true then nI 7 else if 4 = L ∧ spl B s 45 4 45 = true then nI 8 else if 4 = L ∧ spl B s 50 4 50 = true then nI 9 else if 2 = L ∧ spl B s 55 2 55 = true then nI 10 else if 7 = L ∧ spl B s 58 7 58 = true then nI 11 else if 4 = L ∧ spl B s 66 4 66 = true then nI 12 else if 5 = L ∧ spl B s 71 5 71 = true then nI 13 else if 5 = L ∧ spl B s 77 5 77 = true then nI 14 else if 4 = L ∧ spl B s 83 4 83 = true then nI 15 else if 2 = L ∧ spl B s 88 2 88 = true then nI 16 else if 2 = L ∧ spl B s 91 2 91 = true then nI 17 else if 3 = L ∧ spl B s 94 3 94 = true then nI 18 else if 3 = L ∧ spl B s 98 3 98 = true then nI 19 else -1 := by
  rw [wo_word B s L (st := 0) (e := 6) (n := 96) (by decide) (by decide) (by decide) (by decide) (by decide)]
  rw [wo_word B s L (st := 7) (e := 10) (n := 92) (by decide) (by decide) (by decide) (by decide) (by decide)]
  rw [wo_word B s L (st := 11) (e := 16) (n := 86) (by decide) (by decide) (by decide) (by decide) (by decide)]
  rw [wo_word B s L (st := 17) (e := 21) (n := 81) (by decide) (by decide) (by decide) (by decide) (by decide)]
  rw [wo_word B s L (st := 22) (e := 27) (n := 75) (by decide) (by decide) (by decide) (by decide) (by decide)]
  rw [wo_word B s L (st := 28) (e := 33) (n := 69) (by decide) (by decide) (by decide) (by decide) (by decide)]
  rw [wo_word B s L (st := 34) (e := 38) (n := 64) (by decide) (by decide) (by decide) (by decide) (by decide)]
  rw [wo_word B s L (st := 39) (e := 44) (n := 58) (by decide) (by decide) (by decide) (by decide) (by decide)]
  rw [wo_word B s L (st := 45) (e := 49) (n := 53) (by decide) (by decide) (by decide) (by decide) (by decide)]
  rw [wo_word B s L (st := 50) (e := 54) (n := 48) (by decide) (by decide) (by decide) (by decide) (by decide)]
  rw [wo_word B s L (st := 55) (e := 57) (n := 45) (by decide) (by decide) (by decide) (by decide) (by decide)]
  rw [wo_word B s L (st := 58) (e := 65) (n := 37) (by decide) (by decide) (by decide) (by decide) (by decide)]
  rw [wo_word B s L (st := 66) (e := 70) (n := 32) (by decide) (by decide) (by decide) (by decide) (by decide)]
  rw [wo_word B s L (st := 71) (e := 76) (n := 26) (by decide) (by decide) (by decide) (by decide) (by decide)]
  rw [wo_word B s L (st := 77) (e := 82) (n := 20) (by decide) (by decide) (by decide) (by decide) (by decide)]
  rw [wo_word B s L (st := 83) (e := 87) (n := 15) (by decide) (by decide) (by decide) (by decide) (by decide)]
  rw [wo_word B s L (st := 88) (e := 90) (n := 12) (by decide) (by decide) (by decide) (by decide) (by decide)]
  rw [wo_word B s L (st := 91) (e := 93) (n := 9) (by decide) (by decide) (by decide) (by decide) (by decide)]
  rw [wo_word B s L (st := 94) (e := 97) (n := 5) (by decide) (by decide) (by decide) (by decide) (by decide)]
  rw [wo_word B s L (st := 98) (e := 101) (n := 1) (by decide) (by decide) (by decide) (by decide) (by decide)]
  rfl
