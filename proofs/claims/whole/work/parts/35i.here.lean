/-! tokens: the one that is here -/
theorem c_goOn (N : Nat) {B : Nat → Nat} {t n k : Nat} {A : Nat → Nat} {κ : Cz} (hs : Sh κ A) (hk : Tks B t n k A κ) : ∃ κ1, p_Tokens_goOn N (A 2) κ = some κ1 ∧ Tks B t n (min (k + 1) n) A κ1 ∧ Chg A Lt5 κ κ1 := by
  have hA := hs.inj
  obtain ⟨p1, p2, p3, p4, ⟨q1, q2⟩, h4, h5, h6, h7⟩ := hk
  unfold p_Tokens_goOn
  by_cases e : k = n
  · subst e
    simp -implicitDefEqProofs only [hs.tk, ck_1, h7, q1, h4, nI_1]
    rw [if_pos trivial, if_pos (nI_le (Nat.le_refl _) (by omega)), Nat.min_eq_right (by omega)]
    exact ⟨κ, rfl, ⟨p1, p2, p3, p4, ⟨q1, q2⟩, h4, h5, h6, h7⟩, Chg.refl _ _ _⟩
  · have i1 := q2 (k + 1) (by omega)
    simp -implicitDefEqProofs only [hs.tk, ck_1, h7, q1, h4, nI_1, lt_s9, isK_fi, fr_fi, ln_fi, ai_fi, fi_fi, and_true, if_true, bo_s, inbT (show k + 1 < 401 by omega) (by decide), clN (show k + 1 < 2147483648 by omega), i1.1, i1.2.1, true_and, (show (4 = 5) = False by decide), if_false]
    rw [if_neg (nI_ge (show k + 1 < n + 1 by omega) (by omega)), Nat.min_eq_left (by omega)]
    have g : Chg A Lt5 κ (sfi (A 2) 6 (tkV B t (plc B t (k + 1))) (sfi (A 2) 5 (tkK B t (plc B t (k + 1))) (sfi (A 2) 4 (nI (k + 1)) κ))) := ((Chg.sfi (L := Lt5) hA κ (r := 2) (by unfold Lt5; omega) _ _).trans (Chg.sfi (L := Lt5) hA _ (r := 2) (by unfold Lt5; omega) _ _)).trans (Chg.sfi (L := Lt5) hA _ (r := 2) (by unfold Lt5; omega) _ _)
    refine ⟨_, rfl, ⟨p1, p2, p3, by omega, ⟨?_, fun i hi => ?_⟩, ?_, ?_, ?_, ?_⟩, g⟩
    · rw [fi_fi, if_neg (by simp), fi_fi, if_neg (by simp), fi_fi, if_neg (by simp)]; exact q1
    · rw [ai_fi, ai_fi, ai_fi]; exact q2 i hi
    · rw [fi_fi, if_neg (by simp), fi_fi, if_neg (by simp), fi_fi, if_pos ⟨rfl, rfl⟩]
    · rw [fi_fi, if_neg (by simp), fi_fi, if_pos ⟨rfl, rfl⟩]
    · rw [fi_fi, if_pos ⟨rfl, rfl⟩]
    · rw [fi_fi, if_neg (by simp), fi_fi, if_neg (by simp), fi_fi, if_neg (by simp)]; exact h7
/-- behind a fault F -/
def Flt (F : Nat) (A : Nat → Nat) (κ : Cz) : Prop := fi κ (A 2) 7 = nI F ∧ 0 < F ∧ F < 2 ^ 31 ∧ fi κ (A 2) 5 = 5
theorem c_fail (N : Nat) {B : Nat → Nat} {t n k w : Nat} {A : Nat → Nat} {κ : Cz} (hs : Sh κ A) (ht : t ≤ 400) (hk : Tks B t n k A κ) (hw : w < 8) : ∃ κ1, p_Tokens_fail N (A 2) (nI w) κ = some κ1 ∧ Flt (1 + 8 * plc B t k + w) A κ1 ∧ Chg A Lt5 κ κ1 := by
  have hA := hs.inj
  obtain ⟨p1, p2, p3, p4, ⟨q1, q2⟩, h4, h5, h6, h7⟩ := hk
  have hp := plc_le B t k
  have i1 := (q2 k (by omega)).2.2
  have ev : (1 : Int32) + 8 * nI (plc B t k) + nI w = nI (1 + 8 * plc B t k + w) := by rw [show (8 : Int32) = nI 8 from rfl, show (1 : Int32) = nI 1 from rfl, pk_mul, nI_add, nI_add]
  unfold p_Tokens_fail
  simp -implicitDefEqProofs only [hs.tk, ck_1, h7, h4, lt_s9, if_true, bo_s, inbT (show k < 401 by omega) (by decide), clN (show k < 2147483648 by omega), i1, ev]
  refine ⟨_, rfl, ⟨?_, by omega, by omega, ?_⟩, (Chg.sfi (L := Lt5) hA κ (r := 2) (by unfold Lt5; omega) _ _).trans (Chg.sfi (L := Lt5) hA _ (r := 2) (by unfold Lt5; omega) _ _)⟩
  · rw [fi_fi, if_neg (by simp), fi_fi, if_pos ⟨rfl, rfl⟩]
  · rw [fi_fi, if_pos ⟨rfl, rfl⟩]
theorem f_goOn (N : Nat) {F : Nat} {A : Nat → Nat} {κ : Cz} (hs : Sh κ A) (h : Flt F A κ) : p_Tokens_goOn N (A 2) κ = some κ := by
  obtain ⟨h1, h2, h3, h4⟩ := h
  unfold p_Tokens_goOn
  simp -implicitDefEqProofs only [hs.tk, ck_1, h1]
  rw [if_neg (nI_ne0 (by omega) h3)]
theorem f_fail (N : Nat) {F : Nat} {A : Nat → Nat} {κ : Cz} (hs : Sh κ A) (h : Flt F A κ) (w : Int32) : p_Tokens_fail N (A 2) w κ = some κ := by
  obtain ⟨h1, h2, h3, h4⟩ := h
  unfold p_Tokens_fail
  simp -implicitDefEqProofs only [hs.tk, ck_1, h1]
  rw [if_neg (nI_ne0 (by omega) h3)]
theorem f_isWord (N : Nat) {F : Nat} {A : Nat → Nat} {κ : Cz} (hs : Sh κ A) (h : Flt F A κ) (w : Int32) : p_Tokens_isWord N (A 2) w κ = some (0, κ) := by
  unfold p_Tokens_isWord
  simp -implicitDefEqProofs only [hs.tk, ck_1, h.2.2.2]
  rw [if_neg (by decide)]
theorem f_isSign (N : Nat) {F : Nat} {A : Nat → Nat} {κ : Cz} (hs : Sh κ A) (h : Flt F A κ) (w : Int32) : p_Tokens_isSign N (A 2) w κ = some (0, κ) := by
  unfold p_Tokens_isSign
  simp -implicitDefEqProofs only [hs.tk, ck_1, h.2.2.2]
  rw [if_neg (by decide)]
/-- a word is here or not: the class's number, the reference's code -/
theorem tk_word {B : Nat → Nat} {t s w : Nat} (hw : w < 20) : (tkK B t s = 3 ∧ tkV B t s = nI w) ↔ isW B t s (CD w) = true := by
  have nz : ¬ (s < t ∧ smB (B s) = true) → ¬ isW B t s (CD w) = true := by
    intro h z
    have h0 := (isW_iff.mp z).1
    apply h
    have h1 : s < runTo smB B t s := by unfold wdL at h0; omega
    refine ⟨?_, runTo_in smB B (Nat.le_refl s) h1⟩
    by_cases q : s < t
    · exact q
    · rw [runTo_t _ _ (by omega)] at h1
      omega
  unfold tkK tkV
  by_cases a : t ≤ s
  · rw [if_pos a, if_pos a]
    exact ⟨fun z => absurd z.1 (by decide), fun z => absurd z (nz (fun y => absurd y.1 (by omega)))⟩
  · rw [if_neg a, if_neg a]
    by_cases hd : dgB (B s) = true
    · rw [if_pos hd, if_pos hd]
      have hb := dg_b hd
      refine ⟨fun z => ?_, fun z => absurd z (nz (fun y => by have := sm_b y.2; omega))⟩
      have h1 := z.1
      split at h1
      · exact absurd h1 (by decide)
      · exact absurd h1 (by decide)
    · rw [if_neg hd, if_neg hd]
      by_cases hm : smB (B s) = true
      · rw [if_pos hm, if_pos hm, wix_iff hw]
        refine ⟨fun z => z.2, fun z => ⟨?_, z⟩⟩
        rw [if_neg (by rw [z]; exact nI_neg1 (by omega))]
      · rw [if_neg hm, if_neg hm]
        refine ⟨fun z => ?_, fun z => absurd z (nz (fun y => hm y.2))⟩
        have h1 := z.1
        split at h1
        · exact absurd h1 (by decide)
        · exact absurd h1 (by decide)
theorem c_isWord (N : Nat) {B : Nat → Nat} {t n k w : Nat} {A : Nat → Nat} {κ : Cz} (hs : Sh κ A) (hk : Tks B t n k A κ) (hw : w < 20) : p_Tokens_isWord N (A 2) (nI w) κ = some (if isW B t (plc B t k) (CD w) = true then 1 else 0, κ) := by
  obtain ⟨-, -, -, -, -, -, h5, h6, -⟩ := hk
  have h := tk_word (B := B) (t := t) (s := plc B t k) hw
  unfold p_Tokens_isWord
  simp -implicitDefEqProofs only [hs.tk, ck_1, h5, h6]
  by_cases a : tkK B t (plc B t k) = 3
  · rw [if_pos a]
    by_cases b : tkV B t (plc B t k) = nI w
    · rw [if_pos b, if_pos (h.mp ⟨a, b⟩)]
    · rw [if_neg b, if_neg (fun z => b (h.mpr z).2)]
  · rw [if_neg a, if_neg (fun z => a (h.mpr z).1)]
