/-! tokens: signs that are here -/
theorem tk_4 {B : Nat → Nat} {t s : Nat} (hB : s < t → B s < 256) : tkK B t s = 4 ↔ s < t ∧ sgB (B s) = true := by
  unfold tkK
  by_cases a : t ≤ s
  · rw [if_pos a]
    exact ⟨fun z => absurd z (by decide), fun z => absurd z.1 (by omega)⟩
  · rw [if_neg a]
    have hb := hB (by omega)
    by_cases hg : sgB (B s) = true
    · obtain ⟨n1, n2⟩ := ne_dg _ hb hg
      rw [if_neg n1, if_neg n2, if_pos hg]
      exact ⟨fun _ => ⟨by omega, hg⟩, fun _ => rfl⟩
    · refine ⟨fun z => ?_, fun z => absurd z.2 hg⟩
      split at z
      · split at z
        · exact absurd z (by decide)
        · exact absurd z (by decide)
      · split at z
        · split at z
          · exact absurd z (by decide)
          · exact absurd z (by decide)
        · exact absurd z (by decide)
theorem tk_4v {B : Nat → Nat} {t s : Nat} (hst : s < t) (hb : B s < 256) (hg : sgB (B s) = true) : tkV B t s = if orS B t s = true then nI (B s + 256) else nI (B s) := by
  obtain ⟨n1, n2⟩ := ne_dg _ hb hg
  unfold tkV
  rw [if_neg (by omega), if_neg n1, if_neg n2, if_pos hg]
theorem orS_b {B : Nat → Nat} {t s : Nat} (h : orS B t s = true) : (B s = 60 ∨ B s = 62) ∧ s + 1 < t ∧ B (s + 1) = 61 := by
  unfold orS at h
  simp only [Bool.and_eq_true, Bool.or_eq_true, decide_eq_true_eq] at h
  exact ⟨h.1.1, h.1.2, h.2⟩
/-- a sign that is never one with = -/
theorem tk_sign {B : Nat → Nat} {t s v : Nat} (hB : s < t → B s < 256) (hv : v < 256) (hg : sgB v = true) (n0 : v ≠ 60) (n2 : v ≠ 62) : (tkK B t s = 4 ∧ tkV B t s = nI v) ↔ s < t ∧ B s = v := by
  rw [tk_4 hB]
  constructor
  · rintro ⟨⟨h1, h2⟩, h3⟩
    have hb := hB h1
    rw [tk_4v h1 hb h2] at h3
    refine ⟨h1, ?_⟩
    split at h3
    · have := (nI_eq (by omega) (by omega)).mp h3
      omega
    · exact (nI_eq (by omega) (by omega)).mp h3
  · rintro ⟨h1, h2⟩
    have hb := hB h1
    have hg2 : sgB (B s) = true := by rw [h2]; exact hg
    refine ⟨⟨h1, hg2⟩, ?_⟩
    rw [tk_4v h1 hb hg2, if_neg (fun z => by have := (orS_b z).1; omega), h2]
theorem c_isSign (N : Nat) {B : Nat → Nat} {t n k v : Nat} {A : Nat → Nat} {κ : Cz} (hs : Sh κ A) (hB : ∀ i, i < t → B i < 256) (hk : Tks B t n k A κ) (hv : v < 256) (hg : sgB v = true) (n0 : v ≠ 60) (n2 : v ≠ 62) : p_Tokens_isSign N (A 2) (nI v) κ = some (if plc B t k < t ∧ B (plc B t k) = v then 1 else 0, κ) := by
  obtain ⟨-, -, -, -, -, -, h5, h6, -⟩ := hk
  have h := tk_sign (B := B) (t := t) (s := plc B t k) (hB _) hv hg n0 n2
  unfold p_Tokens_isSign
  simp -implicitDefEqProofs only [hs.tk, ck_1, h5, h6]
  by_cases a : tkK B t (plc B t k) = 4
  · rw [if_pos a]
    by_cases b : tkV B t (plc B t k) = nI v
    · rw [if_pos b, if_pos (h.mp ⟨a, b⟩)]
    · rw [if_neg b, if_neg (fun z => b (h.mpr z).2)]
  · rw [if_neg a, if_neg (fun z => a (h.mpr z).1)]
/-- the end is here -/
theorem tk_end {B : Nat → Nat} {t s : Nat} : tkK B t s = 0 ↔ t ≤ s := by
  unfold tkK
  by_cases a : t ≤ s
  · rw [if_pos a]
    exact ⟨fun _ => a, fun _ => rfl⟩
  · rw [if_neg a]
    refine ⟨fun z => ?_, fun z => absurd z a⟩
    split at z
    · split at z
      · exact absurd z (by decide)
      · exact absurd z (by decide)
    · split at z
      · split at z
        · exact absurd z (by decide)
        · exact absurd z (by decide)
      · split at z
        · exact absurd z (by decide)
        · exact absurd z (by decide)
/-- a number is here -/
theorem tk_num {B : Nat → Nat} {t s : Nat} : (tkK B t s = 1 ↔ (s < t ∧ dgB (B s) = true) ∧ nmE B t s - s ≤ 5) ∧ (tkK B t s = 2 ↔ (s < t ∧ dgB (B s) = true) ∧ ¬ nmE B t s - s ≤ 5) := by
  unfold tkK
  by_cases a : t ≤ s
  · rw [if_pos a]
    exact ⟨⟨fun z => absurd z (by decide), fun z => absurd z.1.1 (by omega)⟩, ⟨fun z => absurd z (by decide), fun z => absurd z.1.1 (by omega)⟩⟩
  · rw [if_neg a]
    by_cases hd : dgB (B s) = true
    · rw [if_pos hd]
      by_cases h5 : nmE B t s - s ≤ 5
      · rw [if_pos h5]
        exact ⟨⟨fun _ => ⟨⟨by omega, hd⟩, h5⟩, fun _ => rfl⟩, ⟨fun z => absurd z (by decide), fun z => absurd h5 z.2⟩⟩
      · rw [if_neg h5]
        exact ⟨⟨fun z => absurd z (by decide), fun z => absurd z.2 h5⟩, ⟨fun _ => ⟨⟨by omega, hd⟩, h5⟩, fun _ => rfl⟩⟩
    · rw [if_neg hd]
      have hx : ∀ c : Int32, (c = 1 ∨ c = 2) → ¬ (if smB (B s) = true then (if wix B t s = -1 then (5 : Int32) else 3) else if sgB (B s) = true then 4 else 5) = c := by
        intro c hc z
        split at z
        · split at z
          · rcases hc with rfl | rfl <;> exact absurd z (by decide)
          · rcases hc with rfl | rfl <;> exact absurd z (by decide)
        · split at z
          · rcases hc with rfl | rfl <;> exact absurd z (by decide)
          · rcases hc with rfl | rfl <;> exact absurd z (by decide)
      exact ⟨⟨fun z => absurd z (hx 1 (Or.inl rfl)), fun z => absurd z.1.2 hd⟩, ⟨fun z => absurd z (hx 2 (Or.inr rfl)), fun z => absurd z.1.2 hd⟩⟩
theorem tk_numV {B : Nat → Nat} {t s : Nat} (h : s < t ∧ dgB (B s) = true) : tkV B t s = nI (nmV B t s) ∧ tkN B t s = nmE B t s := by
  unfold tkV tkN
  rw [if_neg (show ¬ t ≤ s by omega), if_neg (show ¬ t ≤ s by omega), if_pos h.2, if_pos h.2]
  exact ⟨rfl, rfl⟩
