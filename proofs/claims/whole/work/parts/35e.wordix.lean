/-! words: the class's number of a word, and how the reference knows it -/
theorem pkW_lo (B : Nat → Nat) (s : Nat) : ∀ k, (∀ i, i < k + 1 → 1 ≤ B (s + i)) → 256 ^ k ≤ pkW B s (k + 1)
  | 0, h => by
    have := h 0 (by omega)
    rw [pkW, pkW]
    simp only [Nat.pow_zero, Nat.zero_mul, Nat.zero_add]
    exact this
  | k + 1, h => by
    have h1 := pkW_lo B s k (fun i hi => h i (by omega))
    rw [pkW, Nat.pow_succ]
    omega
theorem pk_inj (B C : Nat → Nat) (s r : Nat) : ∀ n, (∀ i, i < n → B (s + i) < 256 ∧ C (r + i) < 256) → (pkW B s n = pkW C r n ↔ ∀ i, i < n → B (s + i) = C (r + i))
  | 0, _ => ⟨fun _ i hi => absurd hi (by omega), fun _ => rfl⟩
  | n + 1, h => by
    have ih := pk_inj B C s r n (fun i hi => h i (by omega))
    have hn := h n (by omega)
    rw [pkW, pkW]
    constructor
    · intro e i hi
      have e1 : pkW B s n = pkW C r n := by omega
      have e2 : B (s + n) = C (r + n) := by omega
      by_cases q : i = n
      · subst q; exact e2
      · exact ih.mp e1 i (by omega)
    · intro e
      rw [ih.mpr (fun i hi => e i (by omega)), e n (by omega)]
theorem spl_iff (B : Nat → Nat) (s st : Nat) : ∀ n j, st ≤ j → (spl B s st n j = true ↔ ∀ i, i < n → B (s + (j - st) + i) = WS (j + i))
  | 0, j, _ => ⟨fun _ i hi => absurd hi (by omega), fun _ => rfl⟩
  | n + 1, j, hj => by
    have ih := spl_iff B s st n (j + 1) (by omega)
    rw [spl, Bool.and_eq_true, decide_eq_true_eq, ih]
    constructor
    · rintro ⟨h1, h2⟩ i hi
      by_cases q : i = 0
      · subst q; exact h1
      · have := h2 (i - 1) (by omega)
        rw [show s + (j + 1 - st) + (i - 1) = s + (j - st) + i by omega, show j + 1 + (i - 1) = j + i by omega] at this
        exact this
    · intro h
      refine ⟨h 0 (by omega), fun i hi => ?_⟩
      have := h (i + 1) (by omega)
      rw [show s + (j - st) + (i + 1) = s + (j + 1 - st) + i by omega, show j + (i + 1) = j + 1 + i by omega] at this
      exact this
theorem word_iff {B : Nat → Nat} {t s st len code : Nat} (hB : ∀ i, i < wdL B t s → 97 ≤ B (s + i) ∧ B (s + i) ≤ 122) (hcode : pkW WS st len = code) (h0 : 0 < len) (h8 : len < 8) (hws : ∀ i, i < len → 97 ≤ WS (st + i) ∧ WS (st + i) ≤ 122) : (len = wdL B t s ∧ spl B s st len st = true) ↔ isW B t s code = true := by
  rw [isW_iff, spl_iff B s st len st (Nat.le_refl _), Nat.sub_self, Nat.add_zero]
  constructor
  · rintro ⟨h1, h2⟩
    refine ⟨by omega, by omega, ?_⟩
    rw [← h1, ← hcode]
    exact (pk_inj B WS s st len (fun i hi => ⟨by have := hB i (by omega); omega, by have := hws i hi; omega⟩)).mpr h2
  · rintro ⟨h1, h2, h3⟩
    have l1 := pkW_lt B s (wdL B t s) (fun i hi => by have := hB i hi; omega)
    have l2 := pkW_lt WS st len (fun i hi => by have := hws i hi; omega)
    obtain ⟨k, hk⟩ : ∃ k, wdL B t s = k + 1 := ⟨wdL B t s - 1, by omega⟩
    obtain ⟨m, rfl⟩ : ∃ m, len = m + 1 := ⟨len - 1, by omega⟩
    have l3 := pkW_lo B s k (fun i hi => by have := hB i (by omega); omega)
    have l4 := pkW_lo WS st m (fun i hi => by have := hws i hi; omega)
    rw [hk] at l1 h3
    rw [hcode] at l2 l4
    rw [h3] at l1 l3
    have c1 : k < m + 1 := (Nat.pow_lt_pow_iff_right (show 1 < 256 by decide)).mp (Nat.lt_of_le_of_lt l3 l2)
    have c2 : m < k + 1 := (Nat.pow_lt_pow_iff_right (show 1 < 256 by decide)).mp (Nat.lt_of_le_of_lt l4 l1)
    have e : k = m := by omega
    subst e
    refine ⟨hk.symm, ?_⟩
    rw [← hcode] at h3
    exact (pk_inj B WS s st (k + 1) (fun i hi => ⟨by have := hB i (by omega); omega, by have := hws i hi; omega⟩)).mp h3
/-- the number of the word at s, or -1 -/
def wix (B : Nat → Nat) (t s : Nat) : Int32 := wo B s (wdL B t s) 103 0 0 0
def CD (k : Nat) : Nat := ([119183001281906,7370100,469852319348,1870030194,465726042981,513021013607,1885432164,483006772069,1870095716,1718775661,29807,28539376735186798,1651470187,448310438260,448311224179,1835363940,26982,28530,6385252,7237492] : List Nat).getD k 0
theorem CD_inj : ∀ i, i < 20 → ∀ j, j < 20 → CD i = CD j → i = j := by decide +kernel
theorem isW_one {B : Nat → Nat} {t s a b : Nat} (h1 : isW B t s a = true) (h2 : isW B t s b = true) : a = b := (isW_iff.mp h1).2.2.symm.trans (isW_iff.mp h2).2.2
theorem wd_sm {B : Nat → Nat} {t s : Nat} : ∀ i, i < wdL B t s → 97 ≤ B (s + i) ∧ B (s + i) ≤ 122 := fun i hi => sm_b (runTo_in smB B (t := t) (p := s) (by omega) (by unfold wdL at hi; omega))
theorem wix_chain (B : Nat → Nat) (t s : Nat) : wix B t s = if isW B t s (CD 0) = true then nI 0 else if isW B t s (CD 1) = true then nI 1 else if isW B t s (CD 2) = true then nI 2 else if isW B t s (CD 3) = true then nI 3 else if isW B t s (CD 4) = true then nI 4 else if isW B t s (CD 5) = true then nI 5 else if isW B t s (CD 6) = true then nI 6 else if isW B t s (CD 7) = true then nI 7 else if isW B t s (CD 8) = true then nI 8 else if isW B t s (CD 9) = true then nI 9 else if isW B t s (CD 10) = true then nI 10 else if isW B t s (CD 11) = true then nI 11 else if isW B t s (CD 12) = true then nI 12 else if isW B t s (CD 13) = true then nI 13 else if isW B t s (CD 14) = true then nI 14 else if isW B t s (CD 15) = true then nI 15 else if isW B t s (CD 16) = true then nI 16 else if isW B t s (CD 17) = true then nI 17 else if isW B t s (CD 18) = true then nI 18 else if isW B t s (CD 19) = true then nI 19 else -1 := by
  unfold wix
  rw [wo_all]
  simp only [word_iff (B := B) (t := t) (s := s) (st := 0) (len := 6) (code := CD 0) wd_sm (by decide) (by decide) (by decide) (by decide), word_iff (B := B) (t := t) (s := s) (st := 7) (len := 3) (code := CD 1) wd_sm (by decide) (by decide) (by decide) (by decide), word_iff (B := B) (t := t) (s := s) (st := 11) (len := 5) (code := CD 2) wd_sm (by decide) (by decide) (by decide) (by decide), word_iff (B := B) (t := t) (s := s) (st := 17) (len := 4) (code := CD 3) wd_sm (by decide) (by decide) (by decide) (by decide), word_iff (B := B) (t := t) (s := s) (st := 22) (len := 5) (code := CD 4) wd_sm (by decide) (by decide) (by decide) (by decide), word_iff (B := B) (t := t) (s := s) (st := 28) (len := 5) (code := CD 5) wd_sm (by decide) (by decide) (by decide) (by decide), word_iff (B := B) (t := t) (s := s) (st := 34) (len := 4) (code := CD 6) wd_sm (by decide) (by decide) (by decide) (by decide), word_iff (B := B) (t := t) (s := s) (st := 39) (len := 5) (code := CD 7) wd_sm (by decide) (by decide) (by decide) (by decide), word_iff (B := B) (t := t) (s := s) (st := 45) (len := 4) (code := CD 8) wd_sm (by decide) (by decide) (by decide) (by decide), word_iff (B := B) (t := t) (s := s) (st := 50) (len := 4) (code := CD 9) wd_sm (by decide) (by decide) (by decide) (by decide), word_iff (B := B) (t := t) (s := s) (st := 55) (len := 2) (code := CD 10) wd_sm (by decide) (by decide) (by decide) (by decide), word_iff (B := B) (t := t) (s := s) (st := 58) (len := 7) (code := CD 11) wd_sm (by decide) (by decide) (by decide) (by decide), word_iff (B := B) (t := t) (s := s) (st := 66) (len := 4) (code := CD 12) wd_sm (by decide) (by decide) (by decide) (by decide), word_iff (B := B) (t := t) (s := s) (st := 71) (len := 5) (code := CD 13) wd_sm (by decide) (by decide) (by decide) (by decide), word_iff (B := B) (t := t) (s := s) (st := 77) (len := 5) (code := CD 14) wd_sm (by decide) (by decide) (by decide) (by decide), word_iff (B := B) (t := t) (s := s) (st := 83) (len := 4) (code := CD 15) wd_sm (by decide) (by decide) (by decide) (by decide), word_iff (B := B) (t := t) (s := s) (st := 88) (len := 2) (code := CD 16) wd_sm (by decide) (by decide) (by decide) (by decide), word_iff (B := B) (t := t) (s := s) (st := 91) (len := 2) (code := CD 17) wd_sm (by decide) (by decide) (by decide) (by decide), word_iff (B := B) (t := t) (s := s) (st := 94) (len := 3) (code := CD 18) wd_sm (by decide) (by decide) (by decide) (by decide), word_iff (B := B) (t := t) (s := s) (st := 98) (len := 3) (code := CD 19) wd_sm (by decide) (by decide) (by decide) (by decide)]
theorem wix_k {B : Nat → Nat} {t s k : Nat} (hk : k < 20) (h : isW B t s (CD k) = true) : wix B t s = nI k := by
  have n : ∀ j, j < 20 → j ≠ k → ¬ isW B t s (CD j) = true := fun j hj hne z => hne (CD_inj j hj k hk (isW_one z h))
  rw [wix_chain]
  match k, hk, h, n with
  | 0, _, h, n => rw [if_pos h]
  | 1, _, h, n => rw [if_neg (n 0 (by decide) (by decide)), if_pos h]
  | 2, _, h, n => rw [if_neg (n 0 (by decide) (by decide)), if_neg (n 1 (by decide) (by decide)), if_pos h]
  | 3, _, h, n => rw [if_neg (n 0 (by decide) (by decide)), if_neg (n 1 (by decide) (by decide)), if_neg (n 2 (by decide) (by decide)), if_pos h]
  | 4, _, h, n => rw [if_neg (n 0 (by decide) (by decide)), if_neg (n 1 (by decide) (by decide)), if_neg (n 2 (by decide) (by decide)), if_neg (n 3 (by decide) (by decide)), if_pos h]
  | 5, _, h, n => rw [if_neg (n 0 (by decide) (by decide)), if_neg (n 1 (by decide) (by decide)), if_neg (n 2 (by decide) (by decide)), if_neg (n 3 (by decide) (by decide)), if_neg (n 4 (by decide) (by decide)), if_pos h]
  | 6, _, h, n => rw [if_neg (n 0 (by decide) (by decide)), if_neg (n 1 (by decide) (by decide)), if_neg (n 2 (by decide) (by decide)), if_neg (n 3 (by decide) (by decide)), if_neg (n 4 (by decide) (by decide)), if_neg (n 5 (by decide) (by decide)), if_pos h]
  | 7, _, h, n => rw [if_neg (n 0 (by decide) (by decide)), if_neg (n 1 (by decide) (by decide)), if_neg (n 2 (by decide) (by decide)), if_neg (n 3 (by decide) (by decide)), if_neg (n 4 (by decide) (by decide)), if_neg (n 5 (by decide) (by decide)), if_neg (n 6 (by decide) (by decide)), if_pos h]
  | 8, _, h, n => rw [if_neg (n 0 (by decide) (by decide)), if_neg (n 1 (by decide) (by decide)), if_neg (n 2 (by decide) (by decide)), if_neg (n 3 (by decide) (by decide)), if_neg (n 4 (by decide) (by decide)), if_neg (n 5 (by decide) (by decide)), if_neg (n 6 (by decide) (by decide)), if_neg (n 7 (by decide) (by decide)), if_pos h]
  | 9, _, h, n => rw [if_neg (n 0 (by decide) (by decide)), if_neg (n 1 (by decide) (by decide)), if_neg (n 2 (by decide) (by decide)), if_neg (n 3 (by decide) (by decide)), if_neg (n 4 (by decide) (by decide)), if_neg (n 5 (by decide) (by decide)), if_neg (n 6 (by decide) (by decide)), if_neg (n 7 (by decide) (by decide)), if_neg (n 8 (by decide) (by decide)), if_pos h]
  | 10, _, h, n => rw [if_neg (n 0 (by decide) (by decide)), if_neg (n 1 (by decide) (by decide)), if_neg (n 2 (by decide) (by decide)), if_neg (n 3 (by decide) (by decide)), if_neg (n 4 (by decide) (by decide)), if_neg (n 5 (by decide) (by decide)), if_neg (n 6 (by decide) (by decide)), if_neg (n 7 (by decide) (by decide)), if_neg (n 8 (by decide) (by decide)), if_neg (n 9 (by decide) (by decide)), if_pos h]
  | 11, _, h, n => rw [if_neg (n 0 (by decide) (by decide)), if_neg (n 1 (by decide) (by decide)), if_neg (n 2 (by decide) (by decide)), if_neg (n 3 (by decide) (by decide)), if_neg (n 4 (by decide) (by decide)), if_neg (n 5 (by decide) (by decide)), if_neg (n 6 (by decide) (by decide)), if_neg (n 7 (by decide) (by decide)), if_neg (n 8 (by decide) (by decide)), if_neg (n 9 (by decide) (by decide)), if_neg (n 10 (by decide) (by decide)), if_pos h]
  | 12, _, h, n => rw [if_neg (n 0 (by decide) (by decide)), if_neg (n 1 (by decide) (by decide)), if_neg (n 2 (by decide) (by decide)), if_neg (n 3 (by decide) (by decide)), if_neg (n 4 (by decide) (by decide)), if_neg (n 5 (by decide) (by decide)), if_neg (n 6 (by decide) (by decide)), if_neg (n 7 (by decide) (by decide)), if_neg (n 8 (by decide) (by decide)), if_neg (n 9 (by decide) (by decide)), if_neg (n 10 (by decide) (by decide)), if_neg (n 11 (by decide) (by decide)), if_pos h]
  | 13, _, h, n => rw [if_neg (n 0 (by decide) (by decide)), if_neg (n 1 (by decide) (by decide)), if_neg (n 2 (by decide) (by decide)), if_neg (n 3 (by decide) (by decide)), if_neg (n 4 (by decide) (by decide)), if_neg (n 5 (by decide) (by decide)), if_neg (n 6 (by decide) (by decide)), if_neg (n 7 (by decide) (by decide)), if_neg (n 8 (by decide) (by decide)), if_neg (n 9 (by decide) (by decide)), if_neg (n 10 (by decide) (by decide)), if_neg (n 11 (by decide) (by decide)), if_neg (n 12 (by decide) (by decide)), if_pos h]
  | 14, _, h, n => rw [if_neg (n 0 (by decide) (by decide)), if_neg (n 1 (by decide) (by decide)), if_neg (n 2 (by decide) (by decide)), if_neg (n 3 (by decide) (by decide)), if_neg (n 4 (by decide) (by decide)), if_neg (n 5 (by decide) (by decide)), if_neg (n 6 (by decide) (by decide)), if_neg (n 7 (by decide) (by decide)), if_neg (n 8 (by decide) (by decide)), if_neg (n 9 (by decide) (by decide)), if_neg (n 10 (by decide) (by decide)), if_neg (n 11 (by decide) (by decide)), if_neg (n 12 (by decide) (by decide)), if_neg (n 13 (by decide) (by decide)), if_pos h]
  | 15, _, h, n => rw [if_neg (n 0 (by decide) (by decide)), if_neg (n 1 (by decide) (by decide)), if_neg (n 2 (by decide) (by decide)), if_neg (n 3 (by decide) (by decide)), if_neg (n 4 (by decide) (by decide)), if_neg (n 5 (by decide) (by decide)), if_neg (n 6 (by decide) (by decide)), if_neg (n 7 (by decide) (by decide)), if_neg (n 8 (by decide) (by decide)), if_neg (n 9 (by decide) (by decide)), if_neg (n 10 (by decide) (by decide)), if_neg (n 11 (by decide) (by decide)), if_neg (n 12 (by decide) (by decide)), if_neg (n 13 (by decide) (by decide)), if_neg (n 14 (by decide) (by decide)), if_pos h]
  | 16, _, h, n => rw [if_neg (n 0 (by decide) (by decide)), if_neg (n 1 (by decide) (by decide)), if_neg (n 2 (by decide) (by decide)), if_neg (n 3 (by decide) (by decide)), if_neg (n 4 (by decide) (by decide)), if_neg (n 5 (by decide) (by decide)), if_neg (n 6 (by decide) (by decide)), if_neg (n 7 (by decide) (by decide)), if_neg (n 8 (by decide) (by decide)), if_neg (n 9 (by decide) (by decide)), if_neg (n 10 (by decide) (by decide)), if_neg (n 11 (by decide) (by decide)), if_neg (n 12 (by decide) (by decide)), if_neg (n 13 (by decide) (by decide)), if_neg (n 14 (by decide) (by decide)), if_neg (n 15 (by decide) (by decide)), if_pos h]
  | 17, _, h, n => rw [if_neg (n 0 (by decide) (by decide)), if_neg (n 1 (by decide) (by decide)), if_neg (n 2 (by decide) (by decide)), if_neg (n 3 (by decide) (by decide)), if_neg (n 4 (by decide) (by decide)), if_neg (n 5 (by decide) (by decide)), if_neg (n 6 (by decide) (by decide)), if_neg (n 7 (by decide) (by decide)), if_neg (n 8 (by decide) (by decide)), if_neg (n 9 (by decide) (by decide)), if_neg (n 10 (by decide) (by decide)), if_neg (n 11 (by decide) (by decide)), if_neg (n 12 (by decide) (by decide)), if_neg (n 13 (by decide) (by decide)), if_neg (n 14 (by decide) (by decide)), if_neg (n 15 (by decide) (by decide)), if_neg (n 16 (by decide) (by decide)), if_pos h]
  | 18, _, h, n => rw [if_neg (n 0 (by decide) (by decide)), if_neg (n 1 (by decide) (by decide)), if_neg (n 2 (by decide) (by decide)), if_neg (n 3 (by decide) (by decide)), if_neg (n 4 (by decide) (by decide)), if_neg (n 5 (by decide) (by decide)), if_neg (n 6 (by decide) (by decide)), if_neg (n 7 (by decide) (by decide)), if_neg (n 8 (by decide) (by decide)), if_neg (n 9 (by decide) (by decide)), if_neg (n 10 (by decide) (by decide)), if_neg (n 11 (by decide) (by decide)), if_neg (n 12 (by decide) (by decide)), if_neg (n 13 (by decide) (by decide)), if_neg (n 14 (by decide) (by decide)), if_neg (n 15 (by decide) (by decide)), if_neg (n 16 (by decide) (by decide)), if_neg (n 17 (by decide) (by decide)), if_pos h]
  | 19, _, h, n => rw [if_neg (n 0 (by decide) (by decide)), if_neg (n 1 (by decide) (by decide)), if_neg (n 2 (by decide) (by decide)), if_neg (n 3 (by decide) (by decide)), if_neg (n 4 (by decide) (by decide)), if_neg (n 5 (by decide) (by decide)), if_neg (n 6 (by decide) (by decide)), if_neg (n 7 (by decide) (by decide)), if_neg (n 8 (by decide) (by decide)), if_neg (n 9 (by decide) (by decide)), if_neg (n 10 (by decide) (by decide)), if_neg (n 11 (by decide) (by decide)), if_neg (n 12 (by decide) (by decide)), if_neg (n 13 (by decide) (by decide)), if_neg (n 14 (by decide) (by decide)), if_neg (n 15 (by decide) (by decide)), if_neg (n 16 (by decide) (by decide)), if_neg (n 17 (by decide) (by decide)), if_neg (n 18 (by decide) (by decide)), if_pos h]
  | k + 20, z, _, _ => omega
theorem wix_n {B : Nat → Nat} {t s : Nat} (h : ∀ k, k < 20 → ¬ isW B t s (CD k) = true) : wix B t s = -1 := by
  rw [wix_chain, if_neg (h 0 (by decide)), if_neg (h 1 (by decide)), if_neg (h 2 (by decide)), if_neg (h 3 (by decide)), if_neg (h 4 (by decide)), if_neg (h 5 (by decide)), if_neg (h 6 (by decide)), if_neg (h 7 (by decide)), if_neg (h 8 (by decide)), if_neg (h 9 (by decide)), if_neg (h 10 (by decide)), if_neg (h 11 (by decide)), if_neg (h 12 (by decide)), if_neg (h 13 (by decide)), if_neg (h 14 (by decide)), if_neg (h 15 (by decide)), if_neg (h 16 (by decide)), if_neg (h 17 (by decide)), if_neg (h 18 (by decide)), if_neg (h 19 (by decide))]
theorem wix_or (B : Nat → Nat) (t s : Nat) : (wix B t s = -1 ∧ ∀ k, k < 20 → ¬ isW B t s (CD k) = true) ∨ ∃ k, k < 20 ∧ wix B t s = nI k ∧ isW B t s (CD k) = true := by
  by_cases h : ∃ k, k < 20 ∧ isW B t s (CD k) = true
  · obtain ⟨k, hk, z⟩ := h
    exact Or.inr ⟨k, hk, wix_k hk z, z⟩
  · have h' : ∀ k, k < 20 → ¬ isW B t s (CD k) = true := fun k hk z => h ⟨k, hk, z⟩
    exact Or.inl ⟨wix_n h', h'⟩
theorem wix_iff {B : Nat → Nat} {t s k : Nat} (hk : k < 20) : isW B t s (CD k) = true ↔ wix B t s = nI k := by
  refine ⟨wix_k hk, fun h => ?_⟩
  rcases wix_or B t s with ⟨z, -⟩ | ⟨j, hj, z, y⟩
  · exact absurd (h.symm.trans z) (nI_neg1 (by omega))
  · have : j = k := (nI_eq (by omega) (by omega)).mp (z.symm.trans h)
    subst this
    exact y
