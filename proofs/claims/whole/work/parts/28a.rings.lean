/-! pence, rings -/
theorem sm_pence (N : Nat) (hN : 20000 ≤ N) (x0 : Nat) : Sm_pence N x0 (Rel x0) := by
  rintro κ μ a1 a2 ⟨A, rfl, hR⟩
  have hs := hR.sh
  obtain ⟨c, h, e, q, nn, hO⟩ := hR.ok
  have hc10 : c ≤ 10 := hO.1
  have h3 : ga 7 μ 3 = nI c := hO.2.1
  have hl : fi κ (A 21) 2 = nI c := hR.wd.1.2.2.1.trans h3
  have hp := hR.wd.2.2.1.2.2.2.2.1
  unfold p_ErrataRow_pence p12_pence
  simp -implicitDefEqProofs only [hs.top, hs.w20, ck_1, bo_s, bd_s, c_within, c_isLetter N hs, m_in N a1 0 9999 0 9999 (by decide) (by decide), m_isInBook, hl, h3, ite10, lt_s9]
  by_cases hn : 0 ≤ a1 ∧ a1 ≤ 9999
  · by_cases hi : 0 ≤ a2 ∧ a2 < nI c
    · rw [if_pos hn, if_pos hn, if_pos hi, if_pos hi]
      obtain ⟨k, hk, rfl⟩ := lt_nat (by omega) hi
      have hk10 : k < 10 := by omega
      have e23 : (23 : Int32) + nI k = nI (23 + k) := nI_add 23 k
      have h31 : ga 7 μ (3 : Int32).toNatClampNeg = nI c := h3
      -- the second loop
      have L2 : ∀ (x5 : Int32), ¬ x5 = 0 → ∀ (f i : Nat), i ≤ c → c < f + i → ∀ (x6 x8 : Int32), ∃ r, b_ErrataRow_pence_98 N f a1 (nI k) (A 31) (nI c) x5 x6 (a1 * ga 7 μ (23 + k) - a1 * ga 7 μ (23 + k) / x5 * x5) x8 (nI i) κ = some (r, κ) ∧ b12_pence_85 N f a1 (nI k) x5 (a1 * ga 7 μ (23 + k)) x6 x8 (nI i) μ = some (r, μ) := by
        intro x5 hx5
        have hnz : nz x5 = true := decide_eq_true hx5
        refine upL c (fun f i => ∀ (x6 x8 : Int32), ∃ r, b_ErrataRow_pence_98 N f a1 (nI k) (A 31) (nI c) x5 x6 (a1 * ga 7 μ (23 + k) - a1 * ga 7 μ (23 + k) / x5 * x5) x8 (nI i) κ = some (r, κ) ∧ b12_pence_85 N f a1 (nI k) x5 (a1 * ga 7 μ (23 + k)) x6 x8 (nI i) μ = some (r, μ)) ?_ ?_
        · intro f x6 x8
          rw [b_ErrataRow_pence_98, b12_pence_85, h31, if_pos (nI_le (Nat.le_refl c) (by omega)), if_pos (nI_le (Nat.le_refl c) (by omega))]
          simp -implicitDefEqProofs only [hs.w20, ck_1, inbT hk10 (by decide), clN (show k < 2147483648 by omega), hp k hk10, hnz]
          by_cases z : x6 ≤ x8
          · rw [if_pos z, if_pos z]; exact ⟨_, rfl, rfl⟩
          · rw [if_neg z, if_neg z]; exact ⟨_, rfl, rfl⟩
        · intro f i hic ih x6 x8
          have hi10 : i < 10 := by omega
          have e23i : (23 : Int32) + nI i = nI (23 + i) := nI_add 23 i
          rw [b_ErrataRow_pence_98, b12_pence_85, h31, if_neg (nI_ge hic (by omega)), if_neg (nI_ge hic (by omega))]
          simp -implicitDefEqProofs only [hs.w20, ck_1, inbT hi10 (by decide), clN (show i < 2147483648 by omega), hp i hi10, hnz, lt_s9, nI_1, e23i, inbT (show 23 + i < 129 by omega) (by decide), clN (show 23 + i < 2147483648 by omega), Int32.add_zero]
          by_cases z1 : (a1 * ga 7 μ (23 + k) - a1 * ga 7 μ (23 + k) / x5 * x5) < (a1 * ga 7 μ (23 + i) - a1 * ga 7 μ (23 + i) / x5 * x5)
          · rw [if_pos z1, if_pos z1]; exact ih _ _
          · rw [if_neg z1, if_neg z1]
            by_cases z2 : (a1 * ga 7 μ (23 + i) - a1 * ga 7 μ (23 + i) / x5 * x5) = (a1 * ga 7 μ (23 + k) - a1 * ga 7 μ (23 + k) / x5 * x5)
            · rw [if_pos z2, if_pos z2]
              by_cases z3 : nI k ≤ nI i
              · rw [if_pos z3, if_pos z3]; exact ih _ _
              · rw [if_neg z3, if_neg z3]; exact ih _ _
            · rw [if_neg z2, if_neg z2]; exact ih _ _
      have L1 := upL c (fun f i => ∀ (x5 : Int32), ∃ r, b_ErrataRow_pence_50 N f a1 (nI k) (A 31) (nI c) x5 (nI i) κ = some (r, κ) ∧ b12_pence_27 N f a1 (nI k) x5 (nI i) μ = some (r, μ)) (by
        intro f x5
        rw [b_ErrataRow_pence_50, b12_pence_27, h31, if_pos (nI_le (Nat.le_refl c) (by omega)), if_pos (nI_le (Nat.le_refl c) (by omega))]
        by_cases z : x5 = 0
        · rw [if_pos z, if_pos z]; exact ⟨_, rfl, rfl⟩
        · rw [if_neg z, if_neg z]
          have hnz : nz x5 = true := decide_eq_true z
          simp -implicitDefEqProofs only [hs.w20, ck_1, inbT hk10 (by decide), clN (show k < 2147483648 by omega), hp k hk10, hnz, lt_s9, e23, inbT (show 23 + k < 129 by omega) (by decide), clN (show 23 + k < 2147483648 by omega)]
          have := L2 x5 z N 0 (by omega) (by omega) a1 0
          rw [nI_0] at this
          exact this) (by
        intro f i hic ih x5
        have hi10 : i < 10 := by omega
        have e23i : (23 : Int32) + nI i = nI (23 + i) := nI_add 23 i
        rw [b_ErrataRow_pence_50, b12_pence_27, h31, if_neg (nI_ge hic (by omega)), if_neg (nI_ge hic (by omega))]
        simp -implicitDefEqProofs only [hs.w20, ck_1, inbT hi10 (by decide), clN (show i < 2147483648 by omega), hp i hi10, lt_s9, nI_1, e23i, inbT (show 23 + i < 129 by omega) (by decide), clN (show 23 + i < 2147483648 by omega)]
        exact ih _) N 0 (by omega) (by omega) 0
      rw [nI_0] at L1
      obtain ⟨r, e1, e2⟩ := L1
      exact ⟨r, κ, μ, e1, e2, A, rfl, hR⟩
    · rw [if_pos hn, if_neg hi, if_neg hi]
      exact ⟨-1, κ, μ, rfl, rfl, A, rfl, hR⟩
  · rw [if_neg hn, if_neg hn]
    by_cases hi : 0 ≤ a2 ∧ a2 < nI c
    · rw [if_pos hi]
      exact ⟨-1, κ, μ, rfl, rfl, A, rfl, hR⟩
    · rw [if_neg hi]
      exact ⟨-1, κ, μ, rfl, rfl, A, rfl, hR⟩
theorem sm_rings (N : Nat) (hN : 20000 ≤ N) (x0 : Nat) : Sm_rings N x0 (Rel x0) := by
  rintro κ μ ⟨A, rfl, hR⟩
  have hs := hR.sh
  obtain ⟨c, h, e, q, nn, hO⟩ := hR.ok
  have hc10 : c ≤ 10 := hO.1
  have h3 : ga 7 μ 3 = nI c := hO.2.1
  have hl : fi κ (A 21) 2 = nI c := hR.wd.1.2.2.1.trans h3
  have h0 : fi κ (A 21) 0 = ga 7 μ 0 := hR.wd.1.1
  have hh := hR.wd.2.2.1.2.2.2.2.2
  have h31 : ga 7 μ (3 : Int32).toNatClampNeg = nI c := h3
  unfold p_ErrataRow_rings p12_rings
  simp -implicitDefEqProofs only [hs.top, hs.w20, hs.pr, ck_1, bo_s, bd_s, m_isBook, h0, ite10, c_wrongOf N (by omega) hs hs.st29 hR.wd.1 hR.wd.2.2.1 h3 hc10, m_wrong N (by omega) μ h3 hc10]
  rcases told_or hO with hb | hb
  · simp only [hb, ne10, if_true, if_false]
    generalize sWrong (ga 7 μ) c = w
    have inner : ∀ (k21 : Nat → Int32 → Nat → Int32 → Int32 → Cz → Option (Int32 × Cz)) (k18 : Int32 → Int32 → Int32 → Mz → Option (Int32 × Mz)) (k55 : Int32 → Int32 → Int32 → Int32 → Int32 → Mz → Option (Int32 × Mz)) (x2 x3 x5 : Int32) (f i : Nat), i ≤ c → c < f + i → ∀ x4, ∃ y, b_ErrataRow_hungOver_31 N k21 f (A 0) w (A 32) x4 x5 (nI i) κ = k21 (A 0) w (A 32) y (x5 + 1) κ ∧ b12_rings_65 N k18 k55 f w x2 x3 x4 x5 (nI i) μ = k55 w x2 x3 y (x5 + 1) μ := by
      intro k21 k18 k55 x2 x3 x5
      refine upL c (fun f i => ∀ x4, ∃ y, b_ErrataRow_hungOver_31 N k21 f (A 0) w (A 32) x4 x5 (nI i) κ = k21 (A 0) w (A 32) y (x5 + 1) κ ∧ b12_rings_65 N k18 k55 f w x2 x3 x4 x5 (nI i) μ = k55 w x2 x3 y (x5 + 1) μ) ?_ ?_
      · intro f x4
        refine ⟨x4, ?_, ?_⟩
        · rw [b_ErrataRow_hungOver_31]
          simp -implicitDefEqProofs only [hs.top, hs.w20, ck_1, bo_s, hl, lt_s9]
          rw [if_pos (nI_le (Nat.le_refl c) (by omega))]
        · rw [b12_rings_65, h31, if_pos (nI_le (Nat.le_refl c) (by omega)), lt_s9]
      · intro f i hi ih x4
        have hi10 : i < 10 := by omega
        have e33 : (33 : Int32) + nI i = nI (33 + i) := nI_add 33 i
        rw [b_ErrataRow_hungOver_31, b12_rings_65, h31, if_neg (nI_ge hi (by omega))]
        simp -implicitDefEqProofs only [hs.top, hs.w20, ck_1, bo_s, bd_s, hl, lt_s9, c_hasBit N _ (show i < 32 by omega), m_isOf N _ (show i < 32 by omega), ite10, inbT hi10 (by decide), clN (show i < 2147483648 by omega), hh i hi10, nI_1, e33, inbT (show 33 + i < 129 by omega) (by decide), clN (show 33 + i < 2147483648 by omega)]
        rw [if_neg (nI_ge hi (by omega))]
        by_cases z : bt x4 i = true
        · rw [if_pos z, if_pos z]; exact ih _
        · rw [if_neg z, if_neg z]; exact ih _
    have middle : ∀ (k18 : Int32 → Int32 → Int32 → Mz → Option (Int32 × Mz)) (x2 : Int32) (k : Nat), k < c → ∀ (f i : Nat), i ≤ 10 → 10 < f + i → ∀ x4, ∃ y, b_ErrataRow_hungOver_21 N f (A 0) w (A 32) x4 (nI i) κ = some (y, κ) ∧ b12_rings_55 N k18 f w x2 (nI k) x4 (nI i) μ = if bt y k = true then k18 w (x2 ||| bitI k) (nI (k + 1)) μ else k18 w x2 (nI (k + 1)) μ := by
      intro k18 x2 k hk
      refine upL 10 (fun f i => ∀ x4, ∃ y, b_ErrataRow_hungOver_21 N f (A 0) w (A 32) x4 (nI i) κ = some (y, κ) ∧ b12_rings_55 N k18 f w x2 (nI k) x4 (nI i) μ = if bt y k = true then k18 w (x2 ||| bitI k) (nI (k + 1)) μ else k18 w x2 (nI (k + 1)) μ) ?_ ?_
      · intro f x4
        refine ⟨x4, ?_, ?_⟩
        · rw [b_ErrataRow_hungOver_21, if_pos (show (10 : Int32) ≤ nI 10 from nI_le (a := 10) (b := 10) (by omega) (by omega))]
        · rw [b12_rings_55, if_pos (show (10 : Int32) ≤ nI 10 from nI_le (a := 10) (b := 10) (by omega) (by omega)), m_isOf N _ (show k < 32 by omega), bo_s, ite10]
          simp only [lt_s9, nI_1]
      · intro f i hi ih x4
        have n10 : ¬ (10 : Int32) ≤ nI i := nI_ge (b := 10) hi (by omega)
        obtain ⟨y, p1, p2⟩ := inner (b_ErrataRow_hungOver_21 N f) k18 (b12_rings_55 N k18 f) x2 (nI k) (nI i) N 0 (by omega) (by omega) x4
        rw [nI_0, nI_1] at p1 p2
        rw [b_ErrataRow_hungOver_21, b12_rings_55, if_neg n10, if_neg n10, p1, p2]
        exact ih y
    have outer := upL c (fun f i => ∀ x2, ∃ r, b_ErrataRow_rings_34 N f (A 0) w x2 (nI i) κ = some (r, κ) ∧ b12_rings_18 N f w x2 (nI i) μ = some (r, μ)) (by
      intro f x2
      refine ⟨x2, ?_, ?_⟩
      · rw [b_ErrataRow_rings_34]
        simp -implicitDefEqProofs only [hs.top, hs.w20, ck_1, bo_s, hl]
        rw [if_pos (nI_le (Nat.le_refl c) (by omega))]
      · rw [b12_rings_18, h31, if_pos (nI_le (Nat.le_refl c) (by omega))]) (by
      intro f i hi ih x2
      have hi10 : i < 10 := by omega
      have e33 : (33 : Int32) + nI i = nI (33 + i) := nI_add 33 i
      obtain ⟨y, p1, p2⟩ := middle (b12_rings_18 N f) x2 i hi N 0 (by omega) (by omega) (ga 7 μ (33 + i) &&& w)
      rw [nI_0] at p1 p2
      have eh : p_ErrataRow_hungOver N (A 0) (nI i) w κ = some (y, κ) := by
        unfold p_ErrataRow_hungOver
        simp -implicitDefEqProofs only [hs.top, hs.w20, ck_1, bo_s, lt_s9, inbT hi10 (by decide), clN (show i < 2147483648 by omega), hh i hi10, p1]
      rw [b_ErrataRow_rings_34, b12_rings_18, h31, if_neg (nI_ge hi (by omega))]
      simp -implicitDefEqProofs only [hs.top, hs.w20, ck_1, bo_s, bd_s, hl, lt_s9, c_hasBit N _ (show i < 32 by omega), m_isOf N _ (show i < 32 by omega), ite10, eh, nI_1, e33, inbT (show 33 + i < 129 by omega) (by decide), clN (show 33 + i < 2147483648 by omega), p2]
      rw [if_neg (nI_ge hi (by omega))]
      by_cases z : bt w i = true
      · rw [if_pos z, if_pos z]
        by_cases z2 : bt y i = true
        · rw [if_pos z2, if_pos z2]; exact ih _
        · rw [if_neg z2, if_neg z2]; exact ih _
      · rw [if_neg z, if_neg z]; exact ih _) N 0 (by omega) (by omega) 0
    rw [nI_0] at outer
    obtain ⟨r, e1, e2⟩ := outer
    exact ⟨r, κ, μ, e1, e2, A, rfl, hR⟩
  · simp only [hb, ne01, if_true, if_false]
    exact ⟨-1, κ, μ, rfl, rfl, A, rfl, hR⟩
