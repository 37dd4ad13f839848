/-! both read: frames; a number that must be another one; a cell -/
def MF (I J : Nat → Prop) (μ μ1 : Mz) : Prop := (∀ k, ¬ I k → gi k μ1 = gi k μ) ∧ (∀ k, ¬ J k → ga k μ1 = ga k μ) ∧ (∀ k, gj k μ1 = gj k μ) ∧ (¬ I 5 → ∀ R j, R < 6 → gi 5 μ = nI R → j < 400 * R → ga 1 μ1 j = ga 1 μ j)
theorem MF.refl (I J : Nat → Prop) (μ : Mz) : MF I J μ μ := ⟨fun _ _ => rfl, fun _ _ => rfl, fun _ => rfl, fun _ _ _ _ _ _ => rfl⟩
theorem MF.trans {I J : Nat → Prop} {μ μ1 μ2 : Mz} (h : MF I J μ μ1) (g : MF I J μ1 μ2) : MF I J μ μ2 := ⟨fun k hk => (g.1 k hk).trans (h.1 k hk), fun k hk => (g.2.1 k hk).trans (h.2.1 k hk), fun k => (g.2.2.1 k).trans (h.2.2.1 k), fun n5 R j hR h5 hj => (g.2.2.2 n5 R j hR ((h.1 5 n5).trans h5) hj).trans (h.2.2.2 n5 R j hR h5 hj)⟩
theorem MF.mono {I J I1 J1 : Nat → Prop} {μ μ1 : Mz} (h : MF I J μ μ1) (hi : ∀ k, I k → I1 k) (hj : ∀ k, J k → J1 k) : MF I1 J1 μ μ1 := ⟨fun k hk => h.1 k (fun z => hk (hi k z)), fun k hk => h.2.1 k (fun z => hk (hj k z)), h.2.2.1, fun n5 => h.2.2.2 (fun z => n5 (hi 5 z))⟩
theorem MF.si {I J : Nat → Prop} {k : Nat} (hk : I k) (v : Int32) (μ : Mz) : MF I J μ (si k v μ) := ⟨fun j hj => gi_si_ne (fun (z : j = k) => hj (by rw [z]; exact hk)) _ _, fun _ _ => rfl, fun _ => rfl, fun _ _ _ _ _ _ => rfl⟩
theorem MF.sa {I J : Nat → Prop} {k : Nat} (hk : J k) (f : Nat → Int32) (μ : Mz) (h1 : 1 ≠ k := by decide) : MF I J μ (sa k f μ) := ⟨fun _ _ => rfl, fun j hj => ga_sa_ne (fun (z : j = k) => hj (by rw [z]; exact hk)) _ _, fun _ => rfl, fun _ _ j _ _ _ => by rw [ga_sa_ne h1]⟩
theorem MI.mf {I I1 J1 : Nat → Prop} {μ μ1 : Mz} (h : MI I μ μ1) (hi : ∀ k, I k → I1 k) : MF I1 J1 μ μ1 := ⟨fun k hk => h.1 k (fun z => hk (hi k z)), fun k _ => h.2.1 k, h.2.2, fun _ _ j _ _ _ => by rw [h.2.1 1]⟩
theorem Flt.chg {F : Nat} {A : Nat → Nat} {κ κ1 : Cz} {L : Nat → Prop} (h : Flt F A κ) (g : Chg A L κ κ1) (n : ¬ L 2) : Flt F A κ1 := by
  unfold Flt
  rw [g.fi n]
  exact h
theorem Tks.chg {B : Nat → Nat} {t n k : Nat} {A : Nat → Nat} {κ κ1 : Cz} {L : Nat → Prop} (h : Tks B t n k A κ) (g : Chg A L κ κ1) (nl : ∀ r, 2 ≤ r → r ≤ 5 → ¬ L r) : Tks B t n k A κ1 := by
  unfold Tks TkA
  rw [g.fi (nl 2 (by omega) (by omega)), g.ai (nl 3 (by omega) (by omega)), g.ai (nl 4 (by omega) (by omega)), g.ai (nl 5 (by omega) (by omega))]
  exact h
theorem PJ.chg {B : Nat → Nat} {t n k : Nat} {A : Nat → Nat} {κ κ1 : Cz} {μ : Mz} {L : Nat → Prop} (h : PJ B t n k A κ μ) (g : Chg A L κ κ1) (nl : ∀ r, 2 ≤ r → r ≤ 5 → ¬ L r) : PJ B t n k A κ1 μ := ⟨h.1.chg g, h.2.1.chg g nl, h.2.2⟩
theorem PJ.sa {B : Nat → Nat} {t n k : Nat} {A : Nat → Nat} {κ : Cz} {μ : Mz} (h : PJ B t n k A κ μ) {j : Nat} (hj : j ≠ 0) (f : Nat → Int32) : PJ B t n k A κ (sa j f μ) := by
  obtain ⟨h1, h2, h3, h4, h5⟩ := h
  refine ⟨h1, h2, ⟨h3.1, h3.2.1, ?_⟩, h4, h5⟩
  rw [ga_sa_ne (fun z => hj z.symm)]
  exact h3.2.2
theorem PJ.si {B : Nat → Nat} {t n k : Nat} {A : Nat → Nat} {κ : Cz} {μ : Mz} (h : PJ B t n k A κ μ) {j : Nat} (h0 : j ≠ 0) (h2 : j ≠ 2) (h3 : j ≠ 3) (v : Int32) : PJ B t n k A κ (si j v μ) := by
  obtain ⟨a1, a2, a3, a4, p, a5, a6, a7⟩ := h
  exact ⟨a1, a2, a3.si h0 _, by rw [gi_si_ne (fun z => h3 z.symm)]; exact a4, p, a5, by rw [gi_si_ne (fun z => h2 z.symm)]; exact a6, a7⟩
theorem RB.chg {A : Nat → Nat} {κ κ1 : Cz} {R : Nat → Int32} {L : Nat → Prop} (h : RB κ A R) (g : Chg A L κ κ1) (nl : ∀ r, 7 ≤ r → r ≤ 14 → ¬ L r) : RB κ1 A R := by
  unfold RB
  rw [g.fi (nl 7 (by omega) (by omega)), g.fi (nl 11 (by omega) (by omega)), g.ai (nl 8 (by omega) (by omega)), g.ai (nl 9 (by omega) (by omega)), g.ai (nl 10 (by omega) (by omega)), g.ai (nl 12 (by omega) (by omega)), g.ai (nl 13 (by omega) (by omega)), g.ai (nl 14 (by omega) (by omega))]
  exact h
theorem RB.upd0 {A : Nat → Nat} {κ : Cz} {R : Nat → Int32} (h : RB κ A R) (x : Int32) : RB κ A (upd R 0 x) := by
  obtain ⟨⟨r1, r2, r3, r4, r5, r6⟩, s1, s2, s3, s4, s5, s6⟩ := h
  have u : ∀ j, j ≠ 0 → upd R 0 x j = R j := fun j hj => by rw [upd_at, if_neg hj]
  exact ⟨⟨by rw [u _ (by omega)]; exact r1, by rw [u _ (by omega)]; exact r2, by rw [u _ (by omega)]; exact r3, fun i hi => by rw [u _ (by omega)]; exact r4 i hi, fun i hi => by rw [u _ (by omega)]; exact r5 i hi, fun i hi => by rw [u _ (by omega)]; exact r6 i hi⟩, s1, by rw [u _ (by omega)]; exact s2, s3, fun i hi => by rw [u _ (by omega)]; exact s4 i hi, s5, fun i hi => by rw [u _ (by omega)]; exact s6 i hi⟩
theorem RB.quarter {A : Nat → Nat} {κ : Cz} {R : Nat → Int32} (hA : Inj A) (h : RB κ A R) (x : Int32) : RB (sfi (A 7) 1 x κ) A (upd R 1 x) := by
  obtain ⟨⟨r1, r2, r3, r4, r5, r6⟩, s1, s2, s3, s4, s5, s6⟩ := h
  have u : ∀ j, j ≠ 1 → upd R 1 x j = R j := fun j hj => by rw [upd_at, if_neg hj]
  have f7 : ∀ i, i ≠ 1 → fi (sfi (A 7) 1 x κ) (A 7) i = fi κ (A 7) i := fun i hi => by rw [fi_fi, if_neg (fun z => hi z.2)]
  have f11 : ∀ i, fi (sfi (A 7) 1 x κ) (A 11) i = fi κ (A 11) i := fun i => by rw [fi_fi, if_neg (fun z => hA.ne (show 11 ≠ 7 by decide) z.1)]
  refine ⟨⟨by rw [fi_fi, if_pos ⟨rfl, rfl⟩, upd_at, if_pos rfl], by rw [f7 _ (by decide), u _ (by omega)]; exact r2, by rw [f7 _ (by decide), u _ (by omega)]; exact r3, fun i hi => by rw [ai_fi, u _ (by omega)]; exact r4 i hi, fun i hi => by rw [ai_fi, u _ (by omega)]; exact r5 i hi, fun i hi => by rw [ai_fi, u _ (by omega)]; exact r6 i hi⟩, by rw [f11]; exact s1, by rw [f11, u _ (by omega)]; exact s2, by rw [f11]; exact s3, fun i hi => by rw [ai_fi, u _ (by omega)]; exact s4 i hi, fun i hi => by rw [ai_fi]; exact s5 i hi, fun i hi => by rw [ai_fi, u _ (by omega)]; exact s6 i hi⟩
theorem RB.purse {A : Nat → Nat} {κ : Cz} {R : Nat → Int32} (hA : Inj A) (h : RB κ A R) (x : Int32) : RB (sfi (A 11) 3 x κ) A (upd R 97 x) := by
  obtain ⟨⟨r1, r2, r3, r4, r5, r6⟩, s1, s2, s3, s4, s5, s6⟩ := h
  have u : ∀ j, j ≠ 97 → upd R 97 x j = R j := fun j hj => by rw [upd_at, if_neg hj]
  have f11 : ∀ i, i ≠ 3 → fi (sfi (A 11) 3 x κ) (A 11) i = fi κ (A 11) i := fun i hi => by rw [fi_fi, if_neg (fun z => hi z.2)]
  have f7 : ∀ i, fi (sfi (A 11) 3 x κ) (A 7) i = fi κ (A 7) i := fun i => by rw [fi_fi, if_neg (fun z => hA.ne (show 7 ≠ 11 by decide) z.1)]
  refine ⟨⟨by rw [f7, u _ (by omega)]; exact r1, by rw [f7, u _ (by omega)]; exact r2, by rw [f7, u _ (by omega)]; exact r3, fun i hi => by rw [ai_fi, u _ (by omega)]; exact r4 i hi, fun i hi => by rw [ai_fi, u _ (by omega)]; exact r5 i hi, fun i hi => by rw [ai_fi, u _ (by omega)]; exact r6 i hi⟩, by rw [f11 _ (by decide)]; exact s1, by rw [fi_fi, if_pos ⟨rfl, rfl⟩, upd_at, if_pos rfl], by rw [f11 _ (by decide)]; exact s3, fun i hi => by rw [ai_fi, u _ (by omega)]; exact s4 i hi, fun i hi => by rw [ai_fi]; exact s5 i hi, fun i hi => by rw [ai_fi, u _ (by omega)]; exact s6 i hi⟩
theorem RB.hangs {A : Nat → Nat} {κ : Cz} {R : Nat → Int32} (hA : Inj A) (h : RB κ A R) {w : Nat} (hw : w < 10) (x : Int32) : RB (sai (A 14) (upd (ai κ (A 14)) w x) κ) A (upd R (63 + w) x) := by
  obtain ⟨⟨r1, r2, r3, r4, r5, r6⟩, s1, s2, s3, s4, s5, s6⟩ := h
  have u : ∀ j, j ≠ 63 + w → upd R (63 + w) x j = R j := fun j hj => by rw [upd_at, if_neg hj]
  have ao : ∀ r, r ≠ 14 → ai (sai (A 14) (upd (ai κ (A 14)) w x) κ) (A r) = ai κ (A r) := fun r h1 => by rw [ai_ai, if_neg (hA.ne h1)]
  refine ⟨⟨by rw [fi_ai, u _ (by omega)]; exact r1, by rw [fi_ai, u _ (by omega)]; exact r2, by rw [fi_ai, u _ (by omega)]; exact r3, fun i hi => by rw [ao 8 (by decide), u _ (by omega)]; exact r4 i hi, fun i hi => by rw [ao 9 (by decide), u _ (by omega)]; exact r5 i hi, fun i hi => by rw [ao 10 (by decide), u _ (by omega)]; exact r6 i hi⟩, by rw [fi_ai]; exact s1, by rw [fi_ai, u _ (by omega)]; exact s2, by rw [fi_ai]; exact s3, fun i hi => by rw [ao 12 (by decide), u _ (by omega)]; exact s4 i hi, fun i hi => by rw [ao 13 (by decide)]; exact s5 i hi, fun i hi => ?_⟩
  rw [ai_ai, if_pos rfl, upd_at, upd_at]
  by_cases q : i = w
  · subst q; rw [if_pos rfl, if_pos rfl]
  · rw [if_neg q, if_neg (show ¬ 63 + i = 63 + w by omega)]; exact s6 i hi
/-- a number that must be another one than v -/
theorem num_ex (N : Nat) {B : Nat → Nat} {t n k w : Nat} {A : Nat → Nat} {κ κ1 : Cz} {lo hi x : Int32} (hs : Sh κ A) (ht : t ≤ 400) (hk : Tks B t n k A κ) (hw : w < 2 ^ 31) (hx : ¬ x = -1) (h : p_BookReader_readNumber N (A 6) lo hi (-1) κ = some (x, κ1)) : x = nI w ∧ (∃ κ2, p_BookReader_readNumber N (A 6) lo hi (nI w) κ = some (-1, κ2) ∧ Flt (1 + 8 * plc B t k + 1) A κ2 ∧ Chg A Lt5 κ κ2) ∨ ¬ x = nI w ∧ p_BookReader_readNumber N (A 6) lo hi (nI w) κ = some (x, κ1) := by
  obtain ⟨κ3, e3, t3, g3⟩ := c_fail N hs ht hk (w := 1) (by omega)
  have e3' : p_Tokens_fail N (A 2) 1 κ = some κ3 := e3
  obtain ⟨κ0, e0, t0, g0⟩ := c_fail N hs ht hk (w := 0) (by omega)
  have e0' : p_Tokens_fail N (A 2) 0 κ = some κ0 := e0
  obtain ⟨κ4, e4, t4, g4⟩ := c_goOn N hs hk
  unfold p_BookReader_readNumber at h ⊢
  simp -implicitDefEqProofs only [hs.bR, hs.tk, ck_1, bo_s, lt_s9, e3', e0', e4] at h ⊢
  by_cases q2 : fi κ (A 2) 5 = 2
  · rw [if_pos q2] at h
    exact absurd (congrArg Prod.fst (Option.some.inj h)).symm hx
  · rw [if_neg q2] at h ⊢
    by_cases q1 : fi κ (A 2) 5 = 1
    · rw [if_pos q1] at h ⊢
      by_cases a : fi κ (A 2) 6 < lo
      · rw [if_pos a] at h
        exact absurd (congrArg Prod.fst (Option.some.inj h)).symm hx
      · rw [if_neg a] at h ⊢
        by_cases b : hi < fi κ (A 2) 6
        · rw [if_pos b] at h
          exact absurd (congrArg Prod.fst (Option.some.inj h)).symm hx
        · rw [if_neg b] at h ⊢
          by_cases c : fi κ (A 2) 6 = -1
          · rw [if_pos c] at h
            exact absurd (congrArg Prod.fst (Option.some.inj h)).symm hx
          · rw [if_neg c] at h
            have hx1 : x = fi κ (A 2) 6 := (congrArg Prod.fst (Option.some.inj h)).symm
            by_cases d : fi κ (A 2) 6 = nI w
            · left
              refine ⟨hx1.trans d, κ3, ?_, t3, g3⟩
              rw [if_pos d]
            · right
              refine ⟨fun z => d (hx1.symm.trans z), ?_⟩
              rw [if_neg d]
              exact h
    · rw [if_neg q1] at h
      exact absurd (congrArg Prod.fst (Option.some.inj h)).symm hx
/-- one that fails, whatever else it must not be -/
theorem num_f (N : Nat) {B : Nat → Nat} {t n k : Nat} {A : Nat → Nat} {κ κ1 : Cz} {lo hi ex : Int32} (hs : Sh κ A) (hk : Tks B t n k A κ) (h : p_BookReader_readNumber N (A 6) lo hi (-1) κ = some (-1, κ1)) : p_BookReader_readNumber N (A 6) lo hi ex κ = some (-1, κ1) := by
  unfold p_BookReader_readNumber at h ⊢
  simp -implicitDefEqProofs only [hs.bR, hs.tk, ck_1, bo_s, lt_s9] at h ⊢
  by_cases q2 : fi κ (A 2) 5 = 2
  · rw [if_pos q2] at h ⊢
    exact h
  · rw [if_neg q2] at h ⊢
    by_cases q1 : fi κ (A 2) 5 = 1
    · rw [if_pos q1] at h ⊢
      by_cases a : fi κ (A 2) 6 < lo
      · rw [if_pos a] at h ⊢
        exact h
      · rw [if_neg a] at h ⊢
        by_cases b : hi < fi κ (A 2) 6
        · rw [if_pos b] at h ⊢
          exact h
        · rw [if_neg b] at h ⊢
          have c : ¬ fi κ (A 2) 6 = -1 := by
            obtain ⟨-, -, -, -, -, -, h5, h6, -⟩ := hk
            rw [h5] at q1
            rw [h6, (tk_numV (tk_num.1.mp q1).1).1]
            exact nI_neg1 (by have := nmV_lt B t (plc B t k); omega)
          rw [if_neg c] at h
          cases hg : p_Tokens_goOn N (A 2) κ with
          | none =>
            rw [hg] at h
            exact absurd h (fun z => (nomatch z))
          | some κ9 =>
            rw [hg, bo_s] at h
            exact absurd (congrArg Prod.fst (Option.some.inj h)) c
    · rw [if_neg q1] at h ⊢
      exact h
/-- the reference's cell -/
theorem m_cell (N : Nat) {c : Nat} (hc : c < 98) {lo hi v : Int32} {μ μ1 : Mz} (m1 : p12_numberHere N lo hi μ = some (1, μ1)) (g4 : gi 4 μ1 = v) : p12_cellHere N (nI c) lo hi μ = some (1, sa 5 (upd (ga 5 μ1) c v) μ1) := by
  unfold p12_cellHere
  rw [m1, bd_s, if_neg ne10, lt_s9, ck_t (inb_nI hc (by decide)), lt_s9, g4, clN (by omega)]
theorem m_cell0 (N : Nat) {a lo hi : Int32} {μ μ1 : Mz} (m1 : p12_numberHere N lo hi μ = some (0, μ1)) : p12_cellHere N a lo hi μ = some (0, μ1) := by
  unfold p12_cellHere
  rw [m1, bd_s, if_pos rfl]
