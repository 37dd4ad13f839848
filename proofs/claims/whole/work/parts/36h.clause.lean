/-! the book's clauses -/
theorem m_wordS (N : Nat) (hN : 20000 ≤ N) {B : Nat → Nat} {t n k : Nat} {A : Nat → Nat} {κ : Cz} {μ : Mz} (hJ : PJ B t n k A κ μ) (h2 : gi 2 μ = nI (plc B t k)) (x : Int64) {code : Nat} (hx : x = nL code) (hco : code < 2 ^ 64) : p12_isWord N x μ = some (if isW B t (plc B t k) code = true then 1 else 0, μ) := by
  have h := m_isWord N hN hJ.2.2.1 (plc_le B t k) h2 x hx hco
  rw [skp_plc, si_at h2] at h
  exact h
theorem word_S (N : Nat) (hN : 20000 ≤ N) {B : Nat → Nat} {t n k w : Nat} {A : Nat → Nat} {κ : Cz} {μ : Mz} (hJ : PJ B t n k A κ μ) (h2 : gi 2 μ = nI (plc B t k)) (hw : isW B t (plc B t k) w = true) : ∃ κ1, p_Tokens_goOn N (A 2) κ = some κ1 ∧ p12_passWord N μ = some (si 2 (nI (runTo smB B t (plc B t k))) μ) ∧ PJ B t n (k + 1) A κ1 (si 2 (nI (runTo smB B t (plc B t k))) μ) ∧ Chg A Lt5 κ κ1 := by
  obtain ⟨κ1, e, p, j, c⟩ := word_both N hN hJ hw
  rw [si_at h2] at p
  exact ⟨κ1, e, p, j, c⟩
theorem m_seeJ (N : Nat) (hN : 20000 ≤ N) {B : Nat → Nat} {t n k : Nat} {A : Nat → Nat} {κ : Cz} {μ : Mz} (hJ : PJ B t n k A κ μ) : p12_see N μ = some (if plc B t k = t then -1 else nI (B (plc B t k)), si 2 (nI (plc B t k)) μ) := by
  obtain ⟨-, -, hT, -, p, hp, h2, hsk⟩ := hJ
  have h := m_see N hN hT hp h2
  rw [hsk] at h
  exact h
theorem fail_both (N : Nat) {B : Nat → Nat} {t n k : Nat} {A : Nat → Nat} {κ : Cz} {μ : Mz} (hJ : PJ B t n k A κ μ) {w : Nat} (hw : w < 8) : ∃ κ1, p_Tokens_fail N (A 2) (nI w) κ = some κ1 ∧ Flt (1 + 8 * plc B t k + w) A κ1 ∧ Chg A Lt5 κ κ1 ∧ p12_fails N (nI w) (nI (plc B t k)) μ = some (0, flt w (plc B t k) μ) ∧ gi 3 (flt w (plc B t k) μ) = nI (1 + 8 * plc B t k + w) ∧ MI I234 μ (flt w (plc B t k) μ) := by
  obtain ⟨hs, hk, hT, h3, -⟩ := hJ
  obtain ⟨κ1, e1, f1, g1⟩ := c_fail N hs hT.1 hk hw
  refine ⟨κ1, e1, f1, g1, m_fails N _ rfl μ, ?_, ?_⟩
  · unfold flt
    rw [if_pos h3, gi_si]
  · unfold flt
    rw [if_pos h3]
    exact MI.si (by unfold I234; omega) _ _
theorem isW_ex {B : Nat → Nat} {t s i j : Nat} (hi : i < 20) (hj : j < 20) (hne : i ≠ j) (a : isW B t s (CD i) = true) : ¬ isW B t s (CD j) = true := fun b => hne ((nI_eq (by omega) (by omega)).mp (((wix_iff hi).mp a).symm.trans ((wix_iff hj).mp b)))
/-- one of the book's words is here -/
abbrev bW (B : Nat → Nat) (t s : Nat) : Prop := isW B t s (CD 12) = true ∨ isW B t s (CD 0) = true ∨ isW B t s (CD 13) = true ∨ isW B t s (CD 14) = true
theorem m_bookWord (N : Nat) (hN : 20000 ≤ N) {B : Nat → Nat} {t n k : Nat} {A : Nat → Nat} {κ : Cz} {μ : Mz} (hJ : PJ B t n k A κ μ) (h2 : gi 2 μ = nI (plc B t k)) : p12_isBookWord N μ = some (if bW B t (plc B t k) then 1 else 0, μ) := by
  have w12 := m_wordS N hN hJ h2 1651470187 (code := CD 12) (by decide) (by decide)
  have w0 := m_wordS N hN hJ h2 119183001281906 (code := CD 0) (by decide) (by decide)
  have w13 := m_wordS N hN hJ h2 448310438260 (code := CD 13) (by decide) (by decide)
  have w14 := m_wordS N hN hJ h2 448311224179 (code := CD 14) (by decide) (by decide)
  unfold p12_isBookWord
  rw [w12, bd_s, ite10, w0, bd_s, ite10, w13, bd_s, ite10, w14, bd_s, ite10]
  unfold bW
  by_cases a : isW B t (plc B t k) (CD 12) = true
  · rw [if_pos a, if_pos (Or.inl a)]
  · rw [if_neg a]
    by_cases b : isW B t (plc B t k) (CD 0) = true
    · rw [if_pos b, if_pos (Or.inr (Or.inl b))]
    · rw [if_neg b]
      by_cases c : isW B t (plc B t k) (CD 13) = true
      · rw [if_pos c, if_pos (Or.inr (Or.inr (Or.inl c)))]
      · rw [if_neg c]
        by_cases d : isW B t (plc B t k) (CD 14) = true
        · rw [if_pos d, if_pos (Or.inr (Or.inr (Or.inr d)))]
        · rw [if_neg d, if_neg (fun z => by rcases z with z | z | z | z <;> contradiction)]
theorem c_clause70 (N : Nat) {B : Nat → Nat} {t n k : Nat} {A : Nat → Nat} {κ : Cz} (hs : Sh κ A) (hk : Tks B t n k A κ) (x : Int32) : p_BookReader_readClause N (A 6) x κ = if bW B t (plc B t k) then b_BookReader_readClause_70 N (A 6) x (if isW B t (plc B t k) (CD 12) = true then 1 else 0) (if isW B t (plc B t k) (CD 0) = true then 1 else 0) (if isW B t (plc B t k) (CD 13) = true then 1 else 0) (if isW B t (plc B t k) (CD 14) = true then 1 else 0) κ else p_Tokens_fail N (A 2) 0 κ := by
  have i12 : p_Tokens_isWord N (A 2) 12 κ = _ := c_isWord N hs hk (w := 12) (by decide)
  have i0 : p_Tokens_isWord N (A 2) 0 κ = _ := c_isWord N hs hk (w := 0) (by decide)
  have i13 : p_Tokens_isWord N (A 2) 13 κ = _ := c_isWord N hs hk (w := 13) (by decide)
  have i14 : p_Tokens_isWord N (A 2) 14 κ = _ := c_isWord N hs hk (w := 14) (by decide)
  unfold p_BookReader_readClause
  simp -implicitDefEqProofs only [hs.bR, hs.tk, ck_1, bo_s, bd_s, i12, i0, i13, i14, bo_id]
  unfold bW
  by_cases a : isW B t (plc B t k) (CD 12) = true
  · rw [if_pos a, if_neg ne10, if_pos (Or.inl a)]
  · rw [if_neg a, if_pos rfl]
    by_cases b : isW B t (plc B t k) (CD 0) = true
    · rw [if_pos b, if_neg ne10, if_pos (Or.inr (Or.inl b))]
    · rw [if_neg b, if_pos rfl]
      by_cases c : isW B t (plc B t k) (CD 13) = true
      · rw [if_pos c, if_neg ne10, if_pos (Or.inr (Or.inr (Or.inl c)))]
      · rw [if_neg c, if_pos rfl]
        by_cases d : isW B t (plc B t k) (CD 14) = true
        · rw [if_pos d, if_neg ne10, if_pos (Or.inr (Or.inr (Or.inr d)))]
        · rw [if_neg d, if_pos rfl, if_neg (fun z => by rcases z with z | z | z | z <;> contradiction)]
def IB (k : Nat) : Prop := k = 2 ∨ k = 3 ∨ k = 4 ∨ k = 8
theorem i234_b (k : Nat) (h : I234 k) : IB k := by unfold I234 at h; unfold IB; omega
/-- both stand before the l-th clause of a book -/
def BC (B : Nat → Nat) (t n k l : Nat) (A : Nat → Nat) (κ : Cz) (μ : Mz) : Prop := PJ B t n k A κ μ ∧ RB κ A (ga 5 μ) ∧ (∃ c h, RV (ga 5 μ) c h) ∧ gi 5 μ = 6 ∧ gi 8 μ = nI l ∧ (l = 0 ∧ ga 5 μ 0 = 0 ∨ 0 < l ∧ Rqr (ga 5 μ))
def BO2 (B : Nat → Nat) (t n l : Nat) (A : Nat → Nat) (κ : Cz) (μ : Mz) (r : Int32) (κ1 : Cz) (μ1 : Mz) : Prop := Chg A L214 κ κ1 ∧ MF IB JB μ μ1 ∧ ((r = 1 ∧ l < 40 ∧ ∃ k1, BC B t n k1 (l + 1) A κ1 μ1) ∨ (r = 0 ∧ ∃ F, Flt F A κ1 ∧ gi 3 μ1 = nI F))
theorem BO.two {B : Nat → Nat} {t n l : Nat} {A : Nat → Nat} {κ0 κ : Cz} {μ0 μ : Mz} {r : Int32} {κ1 : Cz} {μ1 : Mz} (h : BO B t n A κ μ r κ1 μ1) (hl : l < 40) (h5 : gi 5 μ = 6) (h8 : gi 8 μ = nI (l + 1)) (c : Chg A L214 κ0 κ) (m : MF IB JB μ0 μ) : BO2 B t n l A κ0 μ0 r κ1 μ1 := by
  obtain ⟨a1, a2, a3⟩ := h
  refine ⟨c.trans a1, m.trans (a2.mono i234_b (fun k z => z)), a3.imp (fun z => ⟨z.1, hl, ?_⟩) id⟩
  obtain ⟨-, k1, b1, b2, b3, b4⟩ := z
  exact ⟨k1, b1, b2, b4, (a2.1 5 (by unfold I234; omega)).trans h5, (a2.1 8 (by unfold I234; omega)).trans h8, Or.inr ⟨by omega, b3⟩⟩
theorem b01_0 : b01 (0 : Int32) = true := by decide
theorem b01_r {r : Int32} (h : r = 1 ∨ r = 0) : b01 r = true := by
  rcases h with rfl | rfl <;> decide
theorem BO.r {B : Nat → Nat} {t n : Nat} {A : Nat → Nat} {κ : Cz} {μ : Mz} {r : Int32} {κ1 : Cz} {μ1 : Mz} (h : BO B t n A κ μ r κ1 μ1) : b01 r = true := b01_r (h.2.2.imp And.left And.left)
theorem bk_clause (N : Nat) (hN : 20000 ≤ N) {B : Nat → Nat} {t n k l : Nat} {A : Nat → Nat} {κ : Cz} {μ : Mz} (hl : l ≤ 40) (h : BC B t n k l A κ μ) : ∃ (r : Int32) (κ1 : Cz) (μ1 : Mz), p_BookReader_readClause N (A 6) (nI l) κ = some κ1 ∧ p12_clauseHere N μ = some (r, μ1) ∧ BO2 B t n l A κ μ r κ1 μ1 := by
  obtain ⟨hJ, hR, ⟨c, h, hv⟩, h5, h8, hl0⟩ := h
  have hs := hJ.1
  have hk := hJ.2.1
  have Js := hJ.see
  have h2s : gi 2 (si 2 (nI (plc B t k)) μ) = nI (plc B t k) := gi_si _ _ _
  have Ms : MF IB JB μ (si 2 (nI (plc B t k)) μ) := MF.si (by unfold IB; omega) _ _
  have s5 : gi 5 (si 2 (nI (plc B t k)) μ) = 6 := by rw [gi_si_ne (by decide)]; exact h5
  have s8 : gi 8 (si 2 (nI (plc B t k)) μ) = nI l := by rw [gi_si_ne (by decide)]; exact h8
  have gs : ∀ j, ga j (si 2 (nI (plc B t k)) μ) = ga j μ := fun j => rfl
  have R0 : p12_clauseHere N μ = if bW B t (plc B t k) then b12_clauseHere_71 N (nI (plc B t k)) 1 40 (nI l) (si 2 (nI (plc B t k)) μ) else some (0, flt 0 (plc B t k) (si 2 (nI (plc B t k)) μ)) := by
    unfold p12_clauseHere
    rw [m_seeJ N hN hJ, bd_s, lt_s9, s5, if_pos rfl]
    unfold b12_clauseHere_24
    rw [if_neg ne10, m_bookWord N hN Js h2s, bd_s, ite10, gi_si, m_fails N (w := 0) 0 rfl, bd_s, ck_t b01_0]
    unfold b12_clauseHere_56
    rw [if_neg ne10, s8]
  rw [R0, c_clause70 N hs hk]
  generalize hμs : si 2 (nI (plc B t k)) μ = μs at *
  by_cases any : bW B t (plc B t k)
  · rw [if_pos any, if_pos any]
    have F4 : ∀ μ', PJ B t n k A κ μ' → MF IB JB μ μ' → ∃ (r : Int32) (κ1 : Cz) (μ1 : Mz), p_Tokens_fail N (A 2) 4 κ = some κ1 ∧ bd (p12_fails N 4 (nI (plc B t k)) μ') (fun r10 μ10 => ck (b01 r10) (some (r10, μ10))) = some (r, μ1) ∧ BO2 B t n l A κ μ r κ1 μ1 := by
      intro μ' J' M'
      obtain ⟨κ1, e1, f1, c1, m1, g1, i1⟩ := fail_both N J' (w := 4) (by decide)
      have e1' : p_Tokens_fail N (A 2) 4 κ = some κ1 := e1
      have m1' : p12_fails N 4 (nI (plc B t k)) μ' = _ := m1
      exact ⟨0, κ1, _, e1', by rw [m1', bd_s, ck_t b01_0], lt5_14 c1, M'.trans (i1.mf i234_b), Or.inr ⟨rfl, _, f1, g1⟩⟩
    by_cases h40 : l = 40
    · subst h40
      obtain ⟨r, κ1, μ1, e1, m1, o⟩ := F4 μs Js Ms
      refine ⟨r, κ1, μ1, ?_, ?_, o⟩
      · unfold b_BookReader_readClause_70
        rw [if_pos (show (40 : Int32) ≤ nI 40 from nI_le (a := 40) (b := 40) (by omega) (by omega))]
        simp -implicitDefEqProofs only [hs.bR, hs.tk, ck_1, bo_s, e1]
      · unfold b12_clauseHere_71
        rw [if_pos (show nI 40 = 40 from rfl)]
        exact m1
    · have h40' : l < 40 := by omega
      -- behind the line's count
      have J8 := Js.si (j := 8) (by decide) (by decide) (by decide) (nI (l + 1))
      have h28 : gi 2 (si 8 (nI (l + 1)) μs) = nI (plc B t k) := by rw [gi_si_ne (by decide)]; exact h2s
      have M8 : MF IB JB μ (si 8 (nI (l + 1)) μs) := Ms.trans (MF.si (by unfold IB; omega) _ _)
      have g8 : ∀ j, ga j (si 8 (nI (l + 1)) μs) = ga j μ := fun j => gs j
      have e85 : gi 5 (si 8 (nI (l + 1)) μs) = 6 := by rw [gi_si_ne (by decide)]; exact s5
      have e88 : gi 8 (si 8 (nI (l + 1)) μs) = nI (l + 1) := gi_si _ _ _
      have R8 : b12_clauseHere_71 N (nI (plc B t k)) 1 40 (nI l) μs = bd (p12_bookLineHere N (nI (plc B t k)) (si 8 (nI (l + 1)) μs)) (fun r7 μ7 => ck (b01 r7) (some (r7, μ7))) := by
        unfold b12_clauseHere_71
        rw [if_neg (show ¬ nI l = 40 from fun z => h40 ((nI_eq (by omega) (by omega)).mp (show nI l = nI 40 from z))), lt_s9, if_neg ne10, s8, nI_1]
      have w12 := m_wordS N hN J8 h28 1651470187 (code := CD 12) (by decide) (by decide)
      have w0 := m_wordS N hN J8 h28 119183001281906 (code := CD 0) (by decide) (by decide)
      have w13 := m_wordS N hN J8 h28 448310438260 (code := CD 13) (by decide) (by decide)
      have C70 : ∀ a b d e : Int32, b_BookReader_readClause_70 N (A 6) (nI l) a b d e κ = b_BookReader_readClause_86 N (A 6) a b d e (if l = 0 then 1 else 0) a κ := by
        intro a b d e
        unfold b_BookReader_readClause_70
        rw [if_neg (show ¬ (40 : Int32) ≤ nI l from nI_ge (b := 40) h40' (by omega))]
        by_cases z : l = 0
        · subst z
          rw [if_pos (show nI 0 = 0 from rfl), if_pos rfl]
        · rw [if_neg (nI_ne0 (by omega) (by omega)), if_neg z]
      rw [R8, C70]
      generalize hμ8 : si 8 (nI (l + 1)) μs = μ8 at *
      have F4' := F4 μ8 J8 M8
      -- a book
      by_cases a12 : isW B t (plc B t k) (CD 12) = true
      · have n0 := isW_ex (j := 0) (by decide) (by decide) (by decide) a12
        have n13 := isW_ex (j := 13) (by decide) (by decide) (by decide) a12
        have n14 := isW_ex (j := 14) (by decide) (by decide) (by decide) a12
        rw [if_pos a12, if_neg n0, if_neg n13, if_neg n14]
        unfold p12_bookLineHere
        rw [w12, bd_s, if_pos a12, if_neg ne10]
        unfold p12_isBookHere b_BookReader_readClause_86
        rcases hl0 with ⟨z0, z1⟩ | ⟨z0, z1⟩
        · obtain ⟨κ2, e2, p2, J2, c2⟩ := word_S N hN J8 h28 a12
          have g5 : ga 5 (si 2 (nI (runTo smB B t (plc B t k))) μ8) = ga 5 μ := g8 5
          obtain ⟨r, κ3, μ3, e3, m3, o3⟩ := bk_pay N hN J2 (by rw [g5]; exact hR.chg c2 (fun r z1 z2 z3 => by unfold Lt5 at z3; omega)) (by rw [g5]; exact hv)
          have hs2 := hs.chg c2
          refine ⟨r, κ3, μ3, ?_, ?_, o3.two h40' (by rw [gi_si_ne (by decide)]; exact e85) (by rw [gi_si_ne (by decide)]; exact e88) (lt5_14 c2) (M8.trans (MF.si (by unfold IB; omega) _ _))⟩
          · rw [if_pos z0, if_pos rfl, if_pos rfl]
            unfold b_BookReader_readClause_105 b_BookReader_readClause_133
            rw [if_pos rfl]
            simp -implicitDefEqProofs only [hs.bR, hs.tk, ck_1, bo_s, e2]
            rw [if_neg ne10]
            simp -implicitDefEqProofs only [hs2.bR, ck_1, bo_s, e3]
          · rw [k0] at m3
            rw [k0, g8 5, if_pos (show ga 5 μ 0 ≤ 0 by rw [z1]; decide), p2, bo_s, m3, bd_s, ck_t o3.r, bd_s, ck_t o3.r]
        · obtain ⟨r, κ1, μ1, e1, m1, o⟩ := F4'
          refine ⟨r, κ1, μ1, ?_, ?_, o⟩
          · rw [if_neg (show ¬ l = 0 by omega), if_neg ne10]
            simp -implicitDefEqProofs only [hs.bR, hs.tk, ck_1, bo_s, e1]
          · rw [k0, g8 5, if_neg (show ¬ ga 5 μ 0 ≤ 0 by rw [z1.1]; decide), m1, bd_s, ck_t (b01_r (o.2.2.imp And.left And.left)), bd_s, ck_t (b01_r (o.2.2.imp And.left And.left))]
      · -- none
        rw [if_neg a12]
        unfold p12_bookLineHere
        rw [w12, bd_s, if_neg a12, if_pos rfl]
        unfold b_BookReader_readClause_86
        rcases hl0 with ⟨z0, z1⟩ | ⟨z0, z1⟩
        · obtain ⟨r, κ1, μ1, e1, m1, o⟩ := F4'
          refine ⟨r, κ1, μ1, ?_, ?_, o⟩
          · rw [if_pos z0, if_neg (show ¬ (0 : Int32) = 1 by decide)]
            simp -implicitDefEqProofs only [hs.bR, hs.tk, ck_1, bo_s, e1]
          · rw [k0, g8 5, if_pos z1, m1, bd_s, ck_t (b01_r (o.2.2.imp And.left And.left))]
        · rw [if_neg (show ¬ l = 0 by omega), if_pos rfl, k0, g8 5, if_neg (show ¬ ga 5 μ 0 = 0 by rw [z1.1]; exact ne10)]
          by_cases a0 : isW B t (plc B t k) (CD 0) = true
          · have n13 := isW_ex (j := 13) (by decide) (by decide) (by decide) a0
            have n14 := isW_ex (j := 14) (by decide) (by decide) (by decide) a0
            rw [if_pos a0, if_neg n13, if_neg n14, if_neg ne10, w0, bd_s, if_pos a0, if_neg ne10]
            unfold p12_isLetterHere
            have f2 : fi κ (A 7) 2 = nI c := hR.1.2.1.trans hv.2.1
            rw [k3, g8 5, hv.2.1]
            by_cases c10 : c = 10
            · subst c10
              obtain ⟨r, κ1, μ1, e1, m1, o⟩ := F4'
              refine ⟨r, κ1, μ1, ?_, ?_, o⟩
              · simp -implicitDefEqProofs only [hs.bR, ck_1, bo_s, f2]
                rw [if_pos (show (10 : Int32) ≤ nI 10 from nI_le (a := 10) (b := 10) (by omega) (by omega))]
                simp -implicitDefEqProofs only [hs.tk, ck_1, bo_s, e1]
              · rw [if_pos (show nI 10 = 10 from rfl), m1, bd_s, ck_t (b01_r (o.2.2.imp And.left And.left)), bd_s, ck_t (b01_r (o.2.2.imp And.left And.left))]
            · have hc10 : c < 10 := by have := hv.1; omega
              obtain ⟨κ2, e2, p2, J2, c2⟩ := word_S N hN J8 h28 a0
              have g5 : ga 5 (si 2 (nI (runTo smB B t (plc B t k))) μ8) = ga 5 μ := g8 5
              obtain ⟨r, κ3, μ3, e3, m3, o3⟩ := bk_letter N hN J2 (by rw [g5]; exact hR.chg c2 (fun r z1 z2 z3 => by unfold Lt5 at z3; omega)) (by rw [g5]; exact z1) (by rw [g5]; exact hv) hc10
              have hs2 := hs.chg c2
              refine ⟨r, κ3, μ3, ?_, ?_, o3.two h40' (by rw [gi_si_ne (by decide)]; exact e85) (by rw [gi_si_ne (by decide)]; exact e88) (lt5_14 c2) (M8.trans (MF.si (by unfold IB; omega) _ _))⟩
              · simp -implicitDefEqProofs only [hs.bR, ck_1, bo_s, f2]
                rw [if_neg (show ¬ (10 : Int32) ≤ nI c from nI_ge (b := 10) hc10 (by omega))]
                unfold b_BookReader_readClause_105 b_BookReader_readClause_133
                rw [if_pos rfl]
                simp -implicitDefEqProofs only [hs.bR, hs.tk, ck_1, bo_s, e2]
                rw [if_pos trivial, if_pos trivial]
                simp -implicitDefEqProofs only [hs2.bR, ck_1, bo_s, e3]
              · rw [k3] at m3
                rw [if_neg (show ¬ nI c = 10 from fun z => c10 ((nI_eq (by omega) (by omega)).mp (show nI c = nI 10 from z))), p2, bo_s, m3, bd_s, ck_t o3.r, bd_s, ck_t o3.r]
          · rw [if_neg a0, if_pos rfl, w0, bd_s, if_neg a0, if_pos rfl]
            unfold b_BookReader_readClause_105
            by_cases a13 : isW B t (plc B t k) (CD 13) = true
            · have n14 := isW_ex (j := 14) (by decide) (by decide) (by decide) a13
              rw [if_pos a13, if_neg n14, if_neg ne10, w13, bd_s, if_pos a13, if_neg ne10]
              unfold p12_isHabitHere
              have f3 : fi κ (A 7) 3 = nI h := hR.1.2.2.1.trans hv.2.2.2.1
              rw [k2, g8 5, hv.2.2.2.1]
              by_cases c12 : h = 12
              · subst c12
                obtain ⟨r, κ1, μ1, e1, m1, o⟩ := F4'
                refine ⟨r, κ1, μ1, ?_, ?_, o⟩
                · simp -implicitDefEqProofs only [hs.bR, ck_1, bo_s, f3]
                  rw [if_neg (show ¬ nI 12 < (12 : Int32) by decide)]
                  simp -implicitDefEqProofs only [hs.tk, ck_1, bo_s, e1]
                · rw [if_pos (show nI 12 = 12 from rfl), m1, bd_s, ck_t (b01_r (o.2.2.imp And.left And.left)), bd_s, ck_t (b01_r (o.2.2.imp And.left And.left))]
              · have hc12 : h < 12 := by have := hv.2.2.1; omega
                obtain ⟨κ2, e2, p2, J2, c2⟩ := word_S N hN J8 h28 a13
                have g5 : ga 5 (si 2 (nI (runTo smB B t (plc B t k))) μ8) = ga 5 μ := g8 5
                obtain ⟨r, κ3, μ3, e3, m3, o3⟩ := bk_habit N hN J2 (by rw [g5]; exact hR.chg c2 (fun r z1 z2 z3 => by unfold Lt5 at z3; omega)) (by rw [g5]; exact z1) (by rw [g5]; exact hv) hc12
                have hs2 := hs.chg c2
                refine ⟨r, κ3, μ3, ?_, ?_, o3.two h40' (by rw [gi_si_ne (by decide)]; exact e85) (by rw [gi_si_ne (by decide)]; exact e88) (lt5_14 c2) (M8.trans (MF.si (by unfold IB; omega) _ _))⟩
                · simp -implicitDefEqProofs only [hs.bR, ck_1, bo_s, f3]
                  rw [if_pos (show nI h < (12 : Int32) from (nI_ltI (b := 12) (by omega) (by omega)).mpr hc12)]
                  unfold b_BookReader_readClause_133
                  simp -implicitDefEqProofs only [hs.bR, hs.tk, ck_1, bo_s, e2]
                  rw [if_pos trivial, if_pos trivial]
                  simp -implicitDefEqProofs only [hs2.bR, ck_1, bo_s, e3]
                · rw [k2] at m3
                  rw [if_neg (show ¬ nI h = 12 from fun z => c12 ((nI_eq (by omega) (by omega)).mp (show nI h = nI 12 from z))), p2, bo_s, m3, bd_s, ck_t o3.r, bd_s, ck_t o3.r]
            · have a14 : isW B t (plc B t k) (CD 14) = true := by
                rcases any with z | z | z | z
                · exact absurd z a12
                · exact absurd z a0
                · exact absurd z a13
                · exact z
              rw [if_neg a13, if_pos a14, if_pos rfl, w13, bd_s, if_neg a13, if_pos rfl]
              unfold p12_isHangsHere
              obtain ⟨κ2, e2, p2, J2, c2⟩ := word_S N hN J8 h28 a14
              have g5 : ga 5 (si 2 (nI (runTo smB B t (plc B t k))) μ8) = ga 5 μ := g8 5
              obtain ⟨r, κ3, μ3, e3, m3, o3⟩ := bk_hangs N hN J2 (by rw [g5]; exact hR.chg c2 (fun r z1 z2 z3 => by unfold Lt5 at z3; omega)) (by rw [g5]; exact z1) (by rw [g5]; exact hv)
              have hs2 := hs.chg c2
              refine ⟨r, κ3, μ3, ?_, ?_, o3.two h40' (by rw [gi_si_ne (by decide)]; exact e85) (by rw [gi_si_ne (by decide)]; exact e88) (lt5_14 c2) (M8.trans (MF.si (by unfold IB; omega) _ _))⟩
              · unfold b_BookReader_readClause_133
                simp -implicitDefEqProofs only [hs.bR, hs.tk, ck_1, bo_s, e2]
                rw [if_pos trivial, if_neg ne10]
                simp -implicitDefEqProofs only [hs2.bR, ck_1, bo_s, e3]
              · rw [p2, bo_s, m3, bd_s, ck_t o3.r, bd_s, ck_t o3.r]
  · rw [if_neg any, if_neg any]
    obtain ⟨κ1, e1, f1, c1, m1, g1, i1⟩ := fail_both N Js (w := 0) (by decide)
    have e1' : p_Tokens_fail N (A 2) 0 κ = some κ1 := e1
    exact ⟨0, κ1, _, e1', rfl, lt5_14 c1, Ms.trans (i1.mf i234_b), Or.inr ⟨rfl, _, f1, g1⟩⟩
