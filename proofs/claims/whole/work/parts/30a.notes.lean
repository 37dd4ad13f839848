/-! notes: are they so, from the begin on -/
def stepK (N : Nat) (A : Nat → Nat) (κ : Cz) : Cz := match p_Press_printEdition N (A 40) (A 66) κ with
  | some (_, κ1) => κ1
  | none => κ
def Kit (N : Nat) (A : Nat → Nat) : Nat → Cz → Cz
  | 0, κ => κ
  | n + 1, κ => Kit N A n (stepK N A κ)
theorem stepK_s {N : Nat} {A : Nat → Nat} {κ κ1 : Cz} {m : Int32} (h : p_Press_printEdition N (A 40) (A 66) κ = some (m, κ1)) : stepK N A κ = κ1 := by
  unfold stepK
  rw [h]
/-- the notes of S in the class -/
def NC (κ : Cz) (A : Nat → Nat) (S : Nat → Int32) (nn : Nat) : Prop := fi κ (A 33) 0 = nI nn ∧ ∀ i, i < nn → ai κ (A 34) i = S (98 + 3 * i) ∧ ai κ (A 35) i = S (98 + 3 * i + 1) ∧ ai κ (A 36) i = S (98 + 3 * i + 2)
theorem NC.chg {κ κ1 : Cz} {A : Nat → Nat} {S : Nat → Int32} {nn : Nat} {L : Nat → Prop} (h : NC κ A S nn) (g : Chg A L κ κ1) (n : ∀ r, 33 ≤ r → r < 37 → ¬ L r) : NC κ1 A S nn := by
  unfold NC
  rw [g.fi (n 33 (by omega) (by omega)), g.ai (n 34 (by omega) (by omega)), g.ai (n 35 (by omega) (by omega)), g.ai (n 36 (by omega) (by omega))]
  exact h
theorem NC.ch {κ κ1 : Cz} {A : Nat → Nat} {S : Nat → Int32} {nn : Nat} {L : Nat → Prop} (h : NC κ A S nn) (g : Ch A L κ κ1) (n : ∀ r, 33 ≤ r → r < 37 → ¬ L r) : NC κ1 A S nn := by
  unfold NC
  rw [g.fi (n 33 (by omega) (by omega)), g.ai (n 34 (by omega) (by omega)), g.ai (n 35 (by omega) (by omega)), g.ai (n 36 (by omega) (by omega))]
  exact h
/-- notes of edition n are so -/
def soK (S : Nat → Int32) (A : Nat → Nat) (nn n : Nat) (κ : Cz) : Prop := ∀ i, i < nn → S (98 + 3 * i) = nI n → ai κ (A 67) (S (98 + 3 * i + 1)).toNatClampNeg = S (98 + 3 * i + 2)
theorem c_isSo (N : Nat) (hN : 20000 ≤ N) {A : Nat → Nat} {κ : Cz} {S : Nat → Int32} {c nn : Nat} (hs : Sh κ A) (hc : c ≤ 10) (hnn : nn ≤ 10) (hC : NC κ A S nn) (hV : ∀ i, i < nn → NtV S c i) (n : Nat) : ∃ b : Bool, (b = true ↔ soK S A nn n κ) ∧ p_Notes_isSo N (A 33) (nI n) (A 67) κ = some (if b = true then 1 else 0, κ) := by
  have L := upL nn (fun f i => ∃ b : Bool, (b = true ↔ ∀ k, i ≤ k → k < nn → S (98 + 3 * k) = nI n → ai κ (A 67) (S (98 + 3 * k + 1)).toNatClampNeg = S (98 + 3 * k + 2)) ∧ b_Notes_isSo_2 N f (A 33) (nI n) (A 67) (nI i) κ = some (if b = true then 1 else 0, κ)) (by
    intro f
    refine ⟨true, ⟨fun _ k h1 h2 => absurd h1 (by omega), fun _ => rfl⟩, ?_⟩
    rw [b_Notes_isSo_2]
    simp -implicitDefEqProofs only [hs.w20, ck_1, hC.1]
    rw [if_pos (nI_le (Nat.le_refl nn) (by omega)), if_pos trivial]) (by
    intro f i hi ih
    obtain ⟨c1, c2, c3⟩ := hC.2 i hi
    obtain ⟨v1, ⟨l, l1, l2⟩, v3⟩ := hV i hi
    have hi10 : i < 10 := by omega
    have hl10 : l < 10 := by omega
    rw [b_Notes_isSo_2]
    simp -implicitDefEqProofs only [hs.w20, hs.tr, ck_1, bo_s, lt_s9, hC.1, c1, c2, c3, l2, inbT hi10 (by decide), clN (show i < 2147483648 by omega), inbT hl10 (by decide), clN (show l < 2147483648 by omega), nI_1]
    rw [if_neg (nI_ge hi (by omega))]
    obtain ⟨b, b1, b2⟩ := ih
    by_cases z : S (98 + 3 * i) = nI n
    · rw [if_pos z]
      by_cases z2 : ai κ (A 67) l = S (98 + 3 * i + 2)
      · rw [if_pos z2]
        refine ⟨b, b1.trans ⟨fun e k h1 h2 h4 => ?_, fun e k h1 h2 => e k (by omega) h2⟩, b2⟩
        by_cases y : k = i
        · subst y
          rw [l2, clN (by omega)]
          exact z2
        · exact e k (by omega) h2 h4
      · rw [if_neg z2]
        refine ⟨false, ⟨fun y => (nomatch y), fun e => ?_⟩, rfl⟩
        have := e i (Nat.le_refl i) hi z
        rw [l2, clN (by omega)] at this
        exact absurd this z2
    · rw [if_neg z]
      refine ⟨b, b1.trans ⟨fun e k h1 h2 h4 => ?_, fun e k h1 h2 => e k (by omega) h2⟩, b2⟩
      by_cases y : k = i
      · subst y; exact absurd h4 z
      · exact e k (by omega) h2 h4) N 0 (by omega) (by omega)
  rw [nI_0] at L
  obtain ⟨b, b1, b2⟩ := L
  exact ⟨b, b1.trans ⟨fun e k hk h4 => e k (by omega) hk h4, fun e k _ hk h4 => e k hk h4⟩, b2⟩
theorem m_notesSo (N : Nat) (hN : 20000 ≤ N) {A : Nat → Nat} {κ : Cz} {μ : Mz} {S : Nat → Int32} {c nn : Nat} (hc : c ≤ 10) (hnn : nn ≤ 10) (h128 : ga 7 μ 128 = nI nn) (h98 : ∀ j, 98 ≤ j → j < 128 → ga 7 μ j = S j) (hS : St κ A 66 (ga 7 μ)) (hV : ∀ i, i < nn → NtV S c i) (n : Nat) : ∃ b : Bool, (b = true ↔ soK S A nn n κ) ∧ p12_areNotesSo N (nI n) μ = some (if b = true then 1 else 0, μ) := by
  have L := upL nn (fun f i => ∃ b : Bool, (b = true ↔ ∀ k, i ≤ k → k < nn → S (98 + 3 * k) = nI n → ai κ (A 67) (S (98 + 3 * k + 1)).toNatClampNeg = S (98 + 3 * k + 2)) ∧ b12_areNotesSo_2 N f (nI n) (nI (3 * i)) μ = some (if b = true then 1 else 0, μ)) (by
    intro f
    refine ⟨true, ⟨fun _ k h1 h2 => absurd h1 (by omega), fun _ => rfl⟩, ?_⟩
    rw [b12_areNotesSo_2, show ga 7 μ (128 : Int32).toNatClampNeg = nI nn from h128, show (3 : Int32) * nI nn = nI (3 * nn) from pk_mul 3 nn, if_pos (nI_le (Nat.le_refl _) (by omega)), if_pos rfl]) (by
    intro f i hi ih
    obtain ⟨v1, ⟨l, l1, l2⟩, v3⟩ := hV i hi
    have hl10 : l < 10 := by omega
    have e0 : (98 : Int32) + nI (3 * i) = nI (98 + 3 * i) := nI_add 98 _
    have e2 : nI (98 + 3 * i) + 2 = nI (98 + 3 * i + 2) := nI_add _ 2
    have e3 : nI (3 * i) + 3 = nI (3 * (i + 1)) := nI_add _ 3
    have e13 : (13 : Int32) + nI l = nI (13 + l) := nI_add 13 l
    have g1 : ga 7 μ (98 + 3 * i) = S (98 + 3 * i) := h98 _ (by omega) (by omega)
    have g2 : ga 7 μ (98 + 3 * i + 1) = nI l := (h98 _ (by omega) (by omega)).trans l2
    have g3 : ga 7 μ (98 + 3 * i + 2) = S (98 + 3 * i + 2) := h98 _ (by omega) (by omega)
    have g4 : ga 7 μ (13 + l) = ai κ (A 67) l := (hS.2.2.2.1 l hl10).symm
    rw [b12_areNotesSo_2, show ga 7 μ (128 : Int32).toNatClampNeg = nI nn from h128, show (3 : Int32) * nI nn = nI (3 * nn) from pk_mul 3 nn, if_neg (nI_ge (show 3 * i < 3 * nn by omega) (by omega)), e0, e2, e3, nI_1]
    simp -implicitDefEqProofs only [ck_1, lt_s9, inbT (show 98 + 3 * i < 129 by omega) (by decide), clN (show 98 + 3 * i < 2147483648 by omega), inbT (show 98 + 3 * i + 1 < 129 by omega) (by decide), clN (show 98 + 3 * i + 1 < 2147483648 by omega), inbT (show 98 + 3 * i + 2 < 129 by omega) (by decide), clN (show 98 + 3 * i + 2 < 2147483648 by omega), g1, g2, g3, e13, inbT (show 13 + l < 129 by omega) (by decide), clN (show 13 + l < 2147483648 by omega), g4]
    obtain ⟨b, b1, b2⟩ := ih
    by_cases z : S (98 + 3 * i) = nI n
    · rw [if_pos z]
      by_cases z2 : ai κ (A 67) l = S (98 + 3 * i + 2)
      · rw [if_pos z2]
        refine ⟨b, b1.trans ⟨fun e k h1 h2 h4 => ?_, fun e k h1 h2 => e k (by omega) h2⟩, b2⟩
        by_cases y : k = i
        · subst y
          rw [l2, clN (by omega)]
          exact z2
        · exact e k (by omega) h2 h4
      · rw [if_neg z2]
        refine ⟨false, ⟨fun y => (nomatch y), fun e => ?_⟩, rfl⟩
        have := e i (Nat.le_refl i) hi z
        rw [l2, clN (by omega)] at this
        exact absurd this z2
    · rw [if_neg z]
      refine ⟨b, b1.trans ⟨fun e k h1 h2 h4 => ?_, fun e k h1 h2 => e k (by omega) h2⟩, b2⟩
      by_cases y : k = i
      · subst y; exact absurd h4 z
      · exact e k (by omega) h2 h4) N 0 (by omega) (by omega)
  rw [Nat.mul_zero, nI_0] at L
  obtain ⟨b, b1, b2⟩ := L
  exact ⟨b, b1.trans ⟨fun e k hk h4 => e k (by omega) hk h4, fun e k _ hk h4 => e k hk h4⟩, b2⟩
/-- the last edition that a note names: E editions to be printed -/
theorem c_last (N : Nat) (hN : 20000 ≤ N) {A : Nat → Nat} {κ : Cz} {S : Nat → Int32} {c nn : Nat} (hs : Sh κ A) (hnn : nn ≤ 10) (hC : NC κ A S nn) (hV : ∀ i, i < nn → NtV S c i) : ∃ (E : Nat) (l : Int32), p_Notes_last N (A 33) κ = some (l, κ) ∧ E ≤ 61 ∧ (E = 0 ∧ l = -1 ∨ 0 < E ∧ l = nI (E - 1)) ∧ ∀ i, i < nn → ∀ v, S (98 + 3 * i) = nI v → v < 2 ^ 31 → v < E := by
  have L := upL nn (fun f i => ∀ (E : Nat) (l : Int32), E ≤ 61 → (E = 0 ∧ l = -1 ∨ 0 < E ∧ l = nI (E - 1)) → (∀ k, k < i → ∀ v, S (98 + 3 * k) = nI v → v < 2 ^ 31 → v < E) → ∃ (E : Nat) (l' : Int32), b_Notes_last_4 N f (A 33) l (nI i) κ = some (l', κ) ∧ E ≤ 61 ∧ (E = 0 ∧ l' = -1 ∨ 0 < E ∧ l' = nI (E - 1)) ∧ ∀ k, k < nn → ∀ v, S (98 + 3 * k) = nI v → v < 2 ^ 31 → v < E) (by
    intro f E l h1 h2 h3
    refine ⟨E, l, ?_, h1, h2, h3⟩
    rw [b_Notes_last_4]
    simp -implicitDefEqProofs only [hs.w20, ck_1, hC.1]
    rw [if_pos (nI_le (Nat.le_refl nn) (by omega))]) (by
    intro f i hi ih E l h1 h2 h3
    obtain ⟨c1, c2, c3⟩ := hC.2 i hi
    obtain ⟨⟨v, v1, v2⟩, -, -⟩ := hV i hi
    have hi10 : i < 10 := by omega
    rw [b_Notes_last_4]
    simp -implicitDefEqProofs only [hs.w20, ck_1, bo_s, lt_s9, hC.1, c1, v2, inbT hi10 (by decide), clN (show i < 2147483648 by omega), nI_1]
    rw [if_neg (nI_ge hi (by omega))]
    by_cases hv : v < E
    · have hn : ¬ l < nI v := by
        rcases h2 with ⟨e1, e2⟩ | ⟨e1, e2⟩
        · omega
        · rw [e2]; exact nI_nlt (by omega) (by omega)
      rw [if_neg hn]
      refine ih E l h1 h2 (fun k hk w w1 w2 => ?_)
      by_cases y : k = i
      · subst y
        have : w = v := (nI_eq w2 (by omega)).mp (w1.symm.trans v2)
        omega
      · exact h3 k (by omega) w w1 w2
    · have hn : l < nI v := by
        rcases h2 with ⟨e1, e2⟩ | ⟨e1, e2⟩
        · rw [e2]; exact Int32.lt_of_lt_of_le (show (-1 : Int32) < 0 by decide) (nI_pos' (by omega))
        · rw [e2]; exact nI_lt (by omega) (by omega)
      rw [if_pos hn]
      refine ih (v + 1) (nI v) (by omega) (Or.inr ⟨by omega, by rw [Nat.add_sub_cancel]⟩) (fun k hk w w1 w2 => ?_)
      by_cases y : k = i
      · subst y
        have : w = v := (nI_eq w2 (by omega)).mp (w1.symm.trans v2)
        omega
      · have := h3 k (by omega) w w1 w2
        omega) N 0 (by omega) (by omega) 0 (-1) (by omega) (Or.inl ⟨rfl, rfl⟩) (fun k hk => absurd hk (by omega))
  rw [nI_0] at L
  exact L
/-- the class's run -/
theorem c_areNotesSo (N : Nat) (hN : 20000 ≤ N) {A : Nat → Nat} {κ : Cz} {μ : Mz} {S : Nat → Int32} {c h e nn : Nat} (hT : TR A κ μ c h e) (he : e ≤ 999) (hnn : nn ≤ 10) (hC : NC κ A S nn) (hV : ∀ i, i < nn → NtV S c i) : ∃ (b : Bool) (κ1 : Cz), (b = true ↔ ∀ n, n ≤ 60 → soK S A nn n (Kit N A (n + 1) κ)) ∧ p_ErrataRow_areNotesSo N (A 0) κ = some (if b = true then 1 else 0, κ1) ∧ Chg A (Lp 66) κ κ1 := by
  have hs := hT.1
  have hc : c ≤ 10 := hT.2.2.2.1.2.2.1
  obtain ⟨E, l, e1, e2, e3, e4⟩ := c_last N hN (c := c) hs hnn hC hV
  have L := upL E (fun f i => ∀ (κ : Cz) (μ : Mz), TR A κ μ c h (e + i) → NC κ A S nn → ∃ (b : Bool) (κ1 : Cz), (b = true ↔ ∀ n, i ≤ n → n < E → soK S A nn n (Kit N A (n - i + 1) κ)) ∧ b_ErrataRow_areNotesSo_13 N f (A 0) l (nI i) κ = some (if b = true then 1 else 0, κ1) ∧ Chg A (Lp 66) κ κ1) (by
    intro f κ μ hT hC
    refine ⟨true, κ, ⟨fun _ n h1 h2 => absurd h1 (by omega), fun _ => rfl⟩, ?_, Chg.refl _ _ _⟩
    have : l < nI E := by
      rcases e3 with ⟨z1, z2⟩ | ⟨z1, z2⟩
      · rw [z2]; exact Int32.lt_of_lt_of_le (show (-1 : Int32) < 0 by decide) (nI_pos' (by omega))
      · rw [z2]; exact nI_lt (by omega) (by omega)
    rw [b_ErrataRow_areNotesSo_13, if_pos this, if_pos rfl]) (by
    intro f i hi ih κ μ hT hC
    have hs := hT.1
    obtain ⟨m, κ1, μ1, p1, p2, hT1, g1, -⟩ := tr_pass N (by omega) hT (by omega)
    have hs1 := hT1.1
    have hC1 : NC κ1 A S nn := hC.chg g1 (fun r z1 z2 z3 => by unfold Lp at z3; omega)
    obtain ⟨b, b1, b2⟩ := c_isSo N hN hs1 hc hnn hC1 hV i
    have hni : ¬ l < nI i := by
      rcases e3 with ⟨z1, z2⟩ | ⟨z1, z2⟩
      · omega
      · rw [z2]; exact nI_nlt (by omega) (by omega)
    have ek : stepK N A κ = κ1 := stepK_s p1
    have eK : ∀ n, i < n → Kit N A (n - i + 1) κ = Kit N A (n - (i + 1) + 1) κ1 := by
      intro n hn
      rw [show n - i + 1 = (n - (i + 1) + 1) + 1 by omega]
      show Kit N A (n - (i + 1) + 1) (stepK N A κ) = _
      rw [ek]
    have e0 : Kit N A (i - i + 1) κ = κ1 := by
      rw [Nat.sub_self]
      exact ek
    rw [b_ErrataRow_areNotesSo_13, if_neg hni]
    simp -implicitDefEqProofs only [hs.top, hs.pr, ck_1, bo_s, bd_s, p1, hs1.top, hs1.w20, hs1.tr, b2, ite10, lt_s9, nI_1]
    by_cases hb : b = true
    · rw [if_pos hb]
      obtain ⟨b', κ2, q1, q2, q3⟩ := ih κ1 μ1 hT1 hC1
      refine ⟨b', κ2, q1.trans ⟨fun z n h1 h2 => ?_, fun z n h1 h2 => ?_⟩, q2, g1.trans q3⟩
      · by_cases y : n = i
        · subst y; rw [e0]; exact b1.mp hb
        · rw [eK n (by omega)]; exact z n (by omega) h2
      · have := z n (by omega) h2
        rw [eK n (by omega)] at this
        exact this
    · rw [if_neg hb]
      refine ⟨false, κ1, ⟨fun z => (nomatch z), fun z => ?_⟩, rfl, g1⟩
      have := z i (Nat.le_refl i) hi
      rw [e0] at this
      exact absurd (b1.mpr this) hb) N 0 (by omega) (by omega) κ μ hT hC
  obtain ⟨b, κ1, q1, q2, q3⟩ := L
  rw [nI_0] at q2
  refine ⟨b, κ1, q1.trans ⟨fun z n hn => ?_, fun z n _ h2 => z n (by omega)⟩, ?_, q3⟩
  · by_cases y : n < E
    · have := z n (by omega) y
      exact this
    · intro i hi hh
      have := e4 i hi n hh (by omega)
      omega
  · unfold p_ErrataRow_areNotesSo
    simp -implicitDefEqProofs only [hs.top, hs.w20, ck_1, bo_s, bd_s, e1, q2]
