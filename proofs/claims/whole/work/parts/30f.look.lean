/-! the most alike, in both; look -/
theorem vl_8 (N : Nat) (hN : 20000 ≤ N) {A : Nat → Nat} {κ : Cz} {μ0 : Mz} {c h e q nn R r t k : Nat} (hR : RelA A κ μ0) (hO : OkV (ga 7 μ0) c h e q nn) (hb : ga 7 μ0 0 = 1) (hR6 : R ≤ 6) (hRR : gi 1 μ0 = nI R) (hr : r ≤ R) (ht : t ≤ 60) (hk : k < 10) : In8 (VLs N A κ r t k) := by
  obtain ⟨κ0, p0, g0, t0, -, v0⟩ := ft_spec N hN hR hO hb hR6 hRR hr
  have hT0 := t0 _ (rdy0 μ0 hR.lf _)
  obtain ⟨κ4, μ4, p4, -, hT4, g4, -⟩ := tr_go N hN (n := t + 1) (by omega) (by omega) hT0
  have ek : κ4 = Kit N A (t + 1) κ0 := Option.some.inj (p4.symm.trans (goOn_kit N hN (by omega) (by omega) hT0))
  have hp4 : PV (ga 7 μ4) := hT4.2.2.2.1.2.2.2.2.2.2.2.2.1
  rw [v0, ← ek, hT4.2.2.1.2.2.2.1 k hk]
  exact hp4 k hk
theorem c_mostAlike (N : Nat) (hN : 20000 ≤ N) {A : Nat → Nat} {κ : Cz} {Y : Nat → Nat → Int32} {m l : Nat} (hs : Sh κ A) (hm : m ≤ 7) (hl : l < 10) (hY : Kpt κ A Y m) : ∃ M, M ≤ 7 ∧ p_ErrataRow_mostAlike N (A 0) (nI l) (nI m) κ = some (nI M, κ) ∧ (∀ p, p < 8 → cn (fun j => decide (Y j (13 + l) = nI p)) m ≤ M) ∧ (M = 0 ∨ ∃ p, p < 8 ∧ cn (fun j => decide (Y j (13 + l) = nI p)) m = M) := by
  have inner : ∀ (k5 : Nat → Int32 → Int32 → Int32 → Int32 → Cz → Option (Int32 × Cz)) (x3 : Int32) (p f i : Nat), i ≤ m → m < f + i → b_ErrataRow_mostAlike_18 N k5 f (A 0) (nI l) (nI m) x3 (nI p) (nI (cn (fun j => decide (Y j (13 + l) = nI p)) i)) (nI i) κ = k5 (A 0) (nI l) (nI m) (if x3 < nI (cn (fun j => decide (Y j (13 + l) = nI p)) m) then nI (cn (fun j => decide (Y j (13 + l) = nI p)) m) else x3) (nI (p + 1)) κ := by
    intro k5 x3 p
    refine upL m (fun f i => b_ErrataRow_mostAlike_18 N k5 f (A 0) (nI l) (nI m) x3 (nI p) (nI (cn (fun j => decide (Y j (13 + l) = nI p)) i)) (nI i) κ = k5 (A 0) (nI l) (nI m) (if x3 < nI (cn (fun j => decide (Y j (13 + l) = nI p)) m) then nI (cn (fun j => decide (Y j (13 + l) = nI p)) m) else x3) (nI (p + 1)) κ) ?_ ?_
    · intro f
      rw [b_ErrataRow_mostAlike_18, if_pos (nI_le (Nat.le_refl m) (by omega)), lt_s9, lt_s9, nI_1]
    · intro f i hi ih
      obtain ⟨y1, y2⟩ := hY i hi
      rw [b_ErrataRow_mostAlike_18, if_neg (nI_ge hi (by omega))]
      simp -implicitDefEqProofs only [hs.top, ck_1, bo_s, bd_s, inbT (show i < 61 by omega) (by decide), clN (show i < 2147483648 by omega), y2, c_unpacked N y1 hl, lt_s9, nI_1]
      rw [cn] at ih
      by_cases z : Y i (13 + l) = nI p
      · rw [if_pos z]
        simpa only [z, decide_true, if_true] using ih
      · rw [if_neg z]
        simpa only [z, decide_false, Bool.false_eq_true, if_false, Nat.add_zero] using ih
  have L := upL 8 (fun f p => ∀ M0, M0 ≤ 7 → (∀ p', p' < p → cn (fun j => decide (Y j (13 + l) = nI p')) m ≤ M0) → (M0 = 0 ∨ ∃ p', p' < p ∧ cn (fun j => decide (Y j (13 + l) = nI p')) m = M0) → ∃ M, M ≤ 7 ∧ b_ErrataRow_mostAlike_5 N f (A 0) (nI l) (nI m) (nI M0) (nI p) κ = some (nI M, κ) ∧ (∀ p, p < 8 → cn (fun j => decide (Y j (13 + l) = nI p)) m ≤ M) ∧ (M = 0 ∨ ∃ p, p < 8 ∧ cn (fun j => decide (Y j (13 + l) = nI p)) m = M)) (by
    intro f M0 h1 h2 h3
    refine ⟨M0, h1, ?_, h2, h3⟩
    rw [b_ErrataRow_mostAlike_5, if_pos (show (8 : Int32) ≤ nI 8 from nI_le (a := 8) (b := 8) (by omega) (by omega))]) (by
    intro f p hp ih M0 h1 h2 h3
    have n8 : ¬ (8 : Int32) ≤ nI p := nI_ge (b := 8) hp (by omega)
    have hcl := cn_le (fun j => decide (Y j (13 + l) = nI p)) m
    have e := inner (b_ErrataRow_mostAlike_5 N f) (nI M0) p N 0 (by omega) (by omega)
    rw [cn, nI_0] at e
    rw [b_ErrataRow_mostAlike_5, if_neg n8, e]
    by_cases z : M0 < cn (fun j => decide (Y j (13 + l) = nI p)) m
    · rw [if_pos (nI_lt z (by omega))]
      refine ih _ (by omega) (fun p' hp' => ?_) (Or.inr ⟨p, by omega, rfl⟩)
      by_cases y : p' = p
      · rw [y]; exact Nat.le_refl _
      · have := h2 p' (by omega); omega
    · rw [if_neg (nI_nlt (by omega) (by omega))]
      refine ih M0 h1 (fun p' hp' => ?_) (h3.imp id (fun ⟨p', a, b⟩ => ⟨p', by omega, b⟩))
      by_cases y : p' = p
      · rw [y]; omega
      · exact h2 p' (by omega)) N 0 (by omega) (by omega) 0 (by omega) (fun p' hp' => absurd hp' (by omega)) (Or.inl rfl)
  rw [nI_0] at L
  exact L
theorem m_alikeAt (N : Nat) (hN : 20000 ≤ N) {μ : Mz} {R l c : Nat} {FF : Nat → Bool} {V : Nat → Nat → Int32} (hR6 : R ≤ 6) (hRR : gi 1 μ = nI R) (hl : l < c) (hc : c ≤ 10) (h15 : ∀ r, r ≤ R → ga 15 μ r = if FF r = true then 1 else 0) (h16 : ∀ r, r ≤ R → ∀ k, k < c → ga 16 μ (10 * r + k) = V r k) : ∃ M, M ≤ 7 ∧ p12_alikeAt N (nI l) μ = some (nI M, μ) ∧ (∀ a, a ≤ R → FF a = true → cn (fun r => FF r && decide (V r l = V a l)) (R + 1) ≤ M) ∧ (M = 0 ∨ ∃ a, a ≤ R ∧ FF a = true ∧ cn (fun r => FF r && decide (V r l = V a l)) (R + 1) = M) := by
  have inner : ∀ (k4 : Int32 → Int32 → Int32 → Mz → Option (Int32 × Mz)) (x2 : Int32) (a : Nat), a ≤ R → FF a = true → ∀ (f i : Nat), i ≤ R + 1 → R + 1 < f + i → b12_alikeAt_18 N k4 f (nI l) x2 (nI a) (nI (cn (fun r => FF r && decide (V r l = V a l)) i)) (nI i) μ = b12_alikeAt_88 N k4 (nI l) x2 (nI a) (nI (cn (fun r => FF r && decide (V r l = V a l)) (R + 1))) μ := by
    intro k4 x2 a ha hf
    refine upL (R + 1) (fun f i => b12_alikeAt_18 N k4 f (nI l) x2 (nI a) (nI (cn (fun r => FF r && decide (V r l = V a l)) i)) (nI i) μ = b12_alikeAt_88 N k4 (nI l) x2 (nI a) (nI (cn (fun r => FF r && decide (V r l = V a l)) (R + 1))) μ) ?_ ?_
    · intro f
      rw [b12_alikeAt_18, hRR, if_pos (nI_lt (by omega) (by omega))]
    · intro f i hi ih
      have ea : (10 : Int32) * nI a + nI l = nI (10 * a + l) := by rw [show (10 : Int32) = nI 10 from rfl, pk_mul, nI_add]
      have eb : (10 : Int32) * nI i + nI l = nI (10 * i + l) := by rw [show (10 : Int32) = nI 10 from rfl, pk_mul, nI_add]
      rw [b12_alikeAt_18, hRR, if_neg (nI_nlt (show i ≤ R by omega) (by omega)), ea, eb]
      simp -implicitDefEqProofs only [ck_1, lt_s9, inbT (show a < 7 by omega) (by decide), clN (show a < 2147483648 by omega), inbT (show i < 7 by omega) (by decide), clN (show i < 2147483648 by omega), h15 a ha, h15 i (by omega), ite10, inbT (show 10 * a + l < 70 by omega) (by decide), clN (show 10 * a + l < 2147483648 by omega), inbT (show 10 * i + l < 70 by omega) (by decide), clN (show 10 * i + l < 2147483648 by omega), h16 a ha l hl, h16 i (by omega) l hl, nI_1, Int32.add_zero]
      rw [if_pos hf]
      rw [cn] at ih
      by_cases z : FF i = true
      · rw [if_pos z]
        by_cases y : V a l = V i l
        · rw [if_pos y]
          simpa only [z, Bool.true_and, y.symm, decide_true, if_true] using ih
        · rw [if_neg y]
          simpa only [z, Bool.true_and, decide_eq_false (fun w : V i l = V a l => y w.symm), Bool.false_eq_true, if_false, Nat.add_zero] using ih
      · rw [if_neg z]
        have z2 : FF i = false := by simpa using z
        simpa only [z2, Bool.false_and, Bool.false_eq_true, if_false, Nat.add_zero] using ih
  have L := upL (R + 1) (fun f i => ∀ M0, M0 ≤ 7 → (∀ a, a < i → FF a = true → cn (fun r => FF r && decide (V r l = V a l)) (R + 1) ≤ M0) → (M0 = 0 ∨ ∃ a, a < i ∧ FF a = true ∧ cn (fun r => FF r && decide (V r l = V a l)) (R + 1) = M0) → ∃ M, M ≤ 7 ∧ b12_alikeAt_4 N f (nI l) (nI M0) (nI i) μ = some (nI M, μ) ∧ (∀ a, a ≤ R → FF a = true → cn (fun r => FF r && decide (V r l = V a l)) (R + 1) ≤ M) ∧ (M = 0 ∨ ∃ a, a ≤ R ∧ FF a = true ∧ cn (fun r => FF r && decide (V r l = V a l)) (R + 1) = M)) (by
    intro f M0 h1 h2 h3
    refine ⟨M0, h1, ?_, fun a ha => h2 a (by omega), h3.imp id (fun ⟨a, b, d⟩ => ⟨a, by omega, d⟩)⟩
    rw [b12_alikeAt_4, hRR, if_pos (nI_lt (by omega) (by omega))]) (by
    intro f i hi ih M0 h1 h2 h3
    rw [b12_alikeAt_4, hRR, if_neg (nI_nlt (show i ≤ R by omega) (by omega))]
    by_cases z : FF i = true
    · have e := inner (b12_alikeAt_4 N f) (nI M0) i (by omega) z N 0 (by omega) (by omega)
      rw [cn, nI_0] at e
      have hcl := cn_le (fun r => FF r && decide (V r l = V i l)) (R + 1)
      rw [e]
      unfold b12_alikeAt_88
      simp only [lt_s9, nI_1]
      by_cases y : cn (fun r => FF r && decide (V r l = V i l)) (R + 1) ≤ M0
      · rw [if_pos (nI_le y (by omega))]
        refine ih M0 h1 (fun a ha hfa => ?_) (h3.imp id (fun ⟨a, b, d⟩ => ⟨a, by omega, d⟩))
        by_cases w : a = i
        · rw [w]; exact y
        · exact h2 a (by omega) hfa
      · rw [if_neg (nI_ge (by omega) (by omega))]
        refine ih _ (by omega) (fun a ha hfa => ?_) (Or.inr ⟨i, by omega, z, rfl⟩)
        by_cases w : a = i
        · rw [w]; exact Nat.le_refl _
        · have := h2 a (by omega) hfa; omega
    · obtain ⟨g, hg⟩ : ∃ g, N = g + 1 := ⟨N - 1, by omega⟩
      have e : b12_alikeAt_18 N (b12_alikeAt_4 N f) N (nI l) (nI M0) (nI i) 0 0 μ = b12_alikeAt_4 N f (nI l) (nI M0) (nI (i + 1)) μ := by
        have : ∀ G, b12_alikeAt_18 N (b12_alikeAt_4 N f) (G + 1) (nI l) (nI M0) (nI i) 0 0 μ = b12_alikeAt_4 N f (nI l) (nI M0) (nI (i + 1)) μ := by
          intro G
          rw [b12_alikeAt_18, hRR, if_neg (show ¬ nI R < 0 from nI_pos (by omega))]
          simp -implicitDefEqProofs only [ck_1, inbT (show i < 7 by omega) (by decide), clN (show i < 2147483648 by omega), h15 i (by omega), ite10]
          rw [if_neg z]
          unfold b12_alikeAt_88
          rw [if_pos (nI_pos' (by omega)), lt_s9, nI_1]
        have h := this g
        rw [← hg] at h
        exact h
      rw [e]
      refine ih M0 h1 (fun a ha hfa => ?_) (h3.imp id (fun ⟨a, b, d⟩ => ⟨a, by omega, d⟩))
      by_cases w : a = i
      · rw [w] at hfa; exact absurd hfa z
      · exact h2 a (by omega) hfa) N 0 (by omega) (by omega) 0 (by omega) (fun a ha => absurd ha (by omega)) (Or.inl rfl)
  rw [nI_0] at L
  exact L
theorem sm_look (N : Nat) (hN : 20000 ≤ N) (x0 : Nat) : Sm_look N x0 (Rel x0) := by
  rintro κ μ a1 a2 ⟨A, rfl, hR⟩
  have hs := hR.sh
  obtain ⟨c, h, e, q, nn, hO⟩ := hR.ok
  have hc10 : c ≤ 10 := hO.1
  have h3 : ga 7 μ 3 = nI c := hO.2.1
  have h0 : fi κ (A 21) 0 = ga 7 μ 0 := hR.wd.1.1
  obtain ⟨R, r1, r2, r3, r4⟩ := hR.rl
  unfold p_ErrataRow_look p12_look
  simp -implicitDefEqProofs only [hs.top, hs.w20, ck_1, bo_s, bd_s, c_within, m_in N a1 0 60 0 60 (by decide) (by decide), m_in N a2 0 1 0 1 (by decide) (by decide), m_isBook, h0, ite10]
  rcases told_or hO with hb | hb
  · simp only [hb, ne10, if_true, if_false]
    by_cases hn : 0 ≤ a1 ∧ a1 ≤ 60
    · by_cases hw : 0 ≤ a2 ∧ a2 ≤ 1
      · rw [if_pos hn, if_pos hn, if_pos hw, if_pos hw]
        obtain ⟨t, ht, rfl⟩ := in_nat 60 (by omega) rfl hn
        obtain ⟨μ1, p1, qm, f15, f16⟩ := m_fillsFits N hN hR hO hb r1 r3 ht
        obtain ⟨κ1, Y, p2, hR1, hY, hC⟩ := c_keepPuts N hN hR hO hb r1 r3 r2 ht
        have hs1 := hR1.sh
        have h31 : ga 7 μ1 3 = nI c := by rw [qm.2.2.2.2.2.2.2.2.2.2.1]; exact h3
        have hl1 : fi κ1 (A 21) 2 = nI c := hR1.wd.1.2.2.1.trans h3
        have g11 : gi 1 μ1 = nI R := qm.2.1.trans r3
        have hRel : Rel (A 0) κ1 μ1 := ⟨A, rfl, hR1.ch (Ch.refl _ _ _) qm⟩
        have hm7 := cn_le (FT N A κ) (R + 1)
        rw [p1, p2, bo_s, bd_s]
        simp -implicitDefEqProofs only [hs1.top, hs1.w20, ck_1, bo_s, hl1]
        -- how much is alike at each
        have both : ∀ l, l < c → ∃ M, M ≤ 7 ∧ p_ErrataRow_mostAlike N (A 0) (nI l) (nI (cn (FT N A κ) (R + 1))) κ1 = some (nI M, κ1) ∧ p12_alikeAt N (nI l) μ1 = some (nI M, μ1) ∧ (cn (FT N A κ) (R + 1) = 0 ↔ M = 0) := by
          intro l hl
          obtain ⟨M1, a1, a2, a3, a4⟩ := c_mostAlike N hN hs1 (show cn (FT N A κ) (R + 1) ≤ 7 by omega) (show l < 10 by omega) hY
          obtain ⟨M2, b1, b2, b3, b4⟩ := m_alikeAt N hN (FF := FT N A κ) (V := fun r k => VLs N A κ r t k) r1 g11 hl hc10 f15 f16
          have e12 : M1 = M2 := by
            apply Nat.le_antisymm
            · rcases a4 with z | ⟨p, hp, ep⟩
              · omega
              · rcases Nat.eq_zero_or_pos M1 with z | z
                · omega
                · rw [hC l hl (nI p)] at ep
                  obtain ⟨j, j1, j2⟩ := cn_pos _ _ (show 0 < cn (fun r => FT N A κ r && decide (VLs N A κ r t l = nI p)) (R + 1) by omega)
                  rw [Bool.and_eq_true, decide_eq_true_eq] at j2
                  have := b3 j (by omega) j2.1
                  simp only [j2.2] at this
                  omega
            · rcases b4 with z | ⟨a, ha, hfa, ea⟩
              · omega
              · obtain ⟨v, v1, v2⟩ := vl_8 N hN hR hO hb r1 r3 (r := a) ha ht (show l < 10 by omega)
                have := a3 v v1
                rw [hC l hl (nI v), ← v2] at this
                have ea' : cn (fun r => FT N A κ r && decide (VLs N A κ r t l = VLs N A κ a t l)) (R + 1) = M2 := ea
                omega
          subst e12
          refine ⟨M1, a1, a2, b2, ⟨fun z => ?_, fun z => ?_⟩⟩
          · rcases a4 with y | ⟨p, hp, ep⟩
            · exact y
            · have := cn_le (fun j => decide (Y j (13 + l) = nI p)) (cn (FT N A κ) (R + 1))
              omega
          · rcases Nat.eq_zero_or_pos (cn (FT N A κ) (R + 1)) with y | y
            · exact y
            · obtain ⟨j, j1, j2⟩ := cn_pos _ _ y
              have h1 := b3 j (by omega) j2
              have h2 := cn_ge (fun r => FT N A κ r && decide (VLs N A κ r t l = VLs N A κ j t l)) (R + 1) j j1 (by simp [j2])
              have h1' : cn (fun r => FT N A κ r && decide (VLs N A κ r t l = VLs N A κ j t l)) (R + 1) ≤ M1 := h1
              omega
        by_cases hz : cn (FT N A κ) (R + 1) = 0
        · -- no rule is so
          rw [hz, if_pos (show nI 0 = 0 by decide)]
          have L := upL c (fun f i => b12_look_46 N f a2 (-2) (-2) (nI i) μ1 = some (-2, μ1)) (by
            intro f
            rw [b12_look_46, show ga 7 μ1 (3 : Int32).toNatClampNeg = nI c from h31, if_pos (nI_le (Nat.le_refl c) (by omega))]
            by_cases z : a2 = 0
            · rw [if_pos z]
            · rw [if_neg z]) (by
            intro f i hi ih
            obtain ⟨M, m1, m2, m3, m4⟩ := both i hi
            rw [b12_look_46, show ga 7 μ1 (3 : Int32).toNatClampNeg = nI c from h31, if_neg (nI_ge hi (by omega)), m3, bd_s, m4.mp hz, if_pos (show nI 0 = 0 by decide), lt_s9, nI_1]
            exact ih) N 0 (by omega) (by omega)
          rw [nI_0] at L
          exact ⟨-2, κ1, μ1, rfl, L, hRel⟩
        · rw [if_neg (nI_ne0 (by omega) (by omega))]
          by_cases hc0 : c = 0
          · subst hc0
            rw [if_pos (show nI 0 = 0 by decide)]
            obtain ⟨g, hg⟩ : ∃ g, N = g + 1 := ⟨N - 1, by omega⟩
            refine ⟨-2, κ1, μ1, rfl, ?_, hRel⟩
            have : ∀ G, b12_look_46 N (G + 1) a2 (-2) (-2) 0 μ1 = some (-2, μ1) := by
              intro G
              rw [b12_look_46, show ga 7 μ1 (3 : Int32).toNatClampNeg = nI 0 from h31, if_pos (by decide)]
              by_cases z : a2 = 0
              · rw [if_pos z]
              · rw [if_neg z]
            have h := this g
            rw [← hg] at h
            exact h
          · rw [if_neg (nI_ne0 (by omega) (by omega))]
            have L := upL c (fun f i => ∀ (x y x' y' : Int32), (i = 0 ∧ x = -1 ∧ y = 8 ∧ x' = -2 ∧ y' = -2 ∨ x' = x ∧ y' = y ∧ 0 ≤ x) → 0 < c - i ∨ 0 ≤ x → ∃ r, b_ErrataRow_look_70 N f (A 0) a2 (nI (cn (FT N A κ) (R + 1))) x y (nI i) κ1 = some (r, κ1) ∧ b12_look_46 N f a2 x' y' (nI i) μ1 = some (r, μ1)) (by
              intro f x y x' y' hxy hor
              rw [b_ErrataRow_look_70, b12_look_46, show ga 7 μ1 (3 : Int32).toNatClampNeg = nI c from h31]
              simp -implicitDefEqProofs only [hs1.top, hs1.w20, ck_1, bo_s, hl1]
              rw [if_pos (nI_le (Nat.le_refl c) (by omega)), if_pos (nI_le (Nat.le_refl c) (by omega))]
              have hx : x' = x ∧ y' = y := by
                rcases hxy with ⟨z, -⟩ | ⟨z1, z2, -⟩
                · omega
                · exact ⟨z1, z2⟩
              rw [hx.1, hx.2]
              by_cases z : a2 = 0
              · rw [if_pos z, if_pos z]; exact ⟨_, rfl, rfl⟩
              · rw [if_neg z, if_neg z]; exact ⟨_, rfl, rfl⟩) (by
              intro f i hi ih x y x' y' hxy hor
              obtain ⟨M, m1, m2, m3, m4⟩ := both i hi
              have hM : M ≠ 0 := fun z => hz (m4.mpr z)
              rw [b_ErrataRow_look_70, b12_look_46, show ga 7 μ1 (3 : Int32).toNatClampNeg = nI c from h31]
              simp -implicitDefEqProofs only [hs1.top, hs1.w20, ck_1, bo_s, bd_s, hl1, m2, lt_s9, nI_1]
              rw [if_neg (nI_ge hi (by omega)), if_neg (nI_ge hi (by omega)), m3, bd_s, if_neg (nI_ne0 (by omega) (by omega))]
              have hp : (0 : Int32) ≤ nI i := nI_pos' (by omega)
              rcases hxy with ⟨z, rfl, rfl, rfl, rfl⟩ | ⟨e1, e2, hx⟩
              · rw [if_neg (show ¬ (8 : Int32) ≤ nI M from nI_ge (b := 8) (by omega) (by omega)), if_pos (by decide)]
                exact ih _ _ _ _ (Or.inr ⟨rfl, rfl, hp⟩) (Or.inr hp)
              · rw [e1, e2, if_neg (Int32.not_lt.mpr hx)]
                by_cases w : nI M < y
                · rw [if_pos w, if_neg (Int32.not_le.mpr w)]
                  exact ih _ _ _ _ (Or.inr ⟨rfl, rfl, hp⟩) (Or.inr hp)
                · rw [if_neg w, if_pos (Int32.not_lt.mp w)]
                  exact ih _ _ _ _ (Or.inr ⟨rfl, rfl, hx⟩) (Or.inr hx)) N 0 (by omega) (by omega) (-1) 8 (-2) (-2) (Or.inl ⟨rfl, rfl, rfl, rfl, rfl⟩) (Or.inl (by omega))
            rw [nI_0] at L
            obtain ⟨r, q1, q2⟩ := L
            exact ⟨r, κ1, μ1, q1, q2, hRel⟩
      · rw [if_pos hn, if_pos hn, if_neg hw, if_neg hw]
        exact ⟨-1, κ, μ, rfl, rfl, A, rfl, hR⟩
    · rw [if_neg hn, if_neg hn]
      exact ⟨-1, κ, μ, rfl, rfl, A, rfl, hR⟩
  · simp only [hb, ne01, if_true, if_false]
    exact ⟨-1, κ, μ, rfl, rfl, A, rfl, hR⟩
