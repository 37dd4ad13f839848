/-! copies of Books, Notes, Worlds; back -/
theorem cpy12 (f g : Nat → Int32) {i : Nat} (hi : i < 12) : va_cpy f g 0 0 12 i = f i := by
  unfold va_cpy
  rw [if_pos ⟨Nat.zero_le _, by omega⟩, Nat.zero_add, Nat.sub_zero]
theorem kk12 : (12 : Int32).toNatClampNeg = 12 := by decide
theorem bo_id {α : Type} (x : Option α) : bo x (fun a => some a) = x := by
  cases x with
  | none => rfl
  | some q => rfl
def Lr (b n r : Nat) : Prop := b ≤ r ∧ r < b + n
theorem c_copyBk (N : Nat) {A : Nat → Nat} {κ : Cz} {b d : Nat} {S T : Nat → Int32} (hA : Inj A) (hb : sBk κ A b) (hd : sBk κ A d) (hb4 : sSt κ A (b + 4)) (hd4 : sSt κ A (d + 4)) (hn : b + 8 ≤ d ∨ d + 8 ≤ b) (hS : Bk κ A d S) (hT : St κ A (d + 4) T) (h01 : S 0 = 1 ∨ S 0 = 0) : ∃ κ1, p_Book_copyFrom N (A b) (A d) κ = some κ1 ∧ Bk κ1 A b S ∧ St κ1 A (b + 4) T ∧ Chg A (Lr b 8) κ κ1 := by
  have n0 : ¬ A d = A b := hA.ne (by omega)
  have n1 : ¬ A (d + 2) = A (b + 1) := hA.ne (by omega)
  have n2 : ¬ A (d + 3) = A (b + 1) := hA.ne (by omega)
  have n3 : ¬ A (d + 3) = A (b + 2) := hA.ne (by omega)
  have n4 : ¬ A (b + 2) = A (b + 1) := hA.ne (by omega)
  have n5 : ¬ A (b + 3) = A (b + 1) := hA.ne (by omega)
  have n6 : ¬ A (b + 3) = A (b + 2) := hA.ne (by omega)
  have n7 : ¬ A (b + 1) = A (b + 2) := hA.ne (by omega)
  have n8 : ¬ A (b + 1) = A (b + 3) := hA.ne (by omega)
  have n9 : ¬ A (b + 2) = A (b + 3) := hA.ne (by omega)
  have hv : b01 (fi κ (A d) 0) = true := by
    rw [hS.1]
    rcases h01 with z | z <;> rw [z] <;> decide
  obtain ⟨s1, s2, s3, s4, s5, s6, s7⟩ := hS
  have g7 : Chg A (Lr b 8) κ (sai (A (b + 3)) (va_cpy (ai κ (A (d + 3))) (ai κ (A (b + 3))) 0 0 12) (sai (A (b + 2)) (va_cpy (ai κ (A (d + 2))) (ai κ (A (b + 2))) 0 0 12) (sai (A (b + 1)) (va_cpy (ai κ (A (d + 1))) (ai κ (A (b + 1))) 0 0 10) (sfi (A b) 3 (fi κ (A d) 3) (sfi (A b) 2 (fi κ (A d) 2) (sfi (A b) 1 (fi κ (A d) 1) (sfi (A b) 0 (fi κ (A d) 0) κ))))))) := by
    refine Chg.trans (Chg.trans (Chg.trans (Chg.trans (Chg.trans (Chg.trans (Chg.sfi hA κ (r := b) ?_ _ _) (Chg.sfi hA _ (r := b) ?_ _ _)) (Chg.sfi hA _ (r := b) ?_ _ _)) (Chg.sfi hA _ (r := b) ?_ _ _)) (Chg.sai hA _ (r := b + 1) ?_ _)) (Chg.sai hA _ (r := b + 2) ?_ _)) (Chg.sai hA _ (r := b + 3) ?_ _) <;> exact ⟨by omega, by omega⟩
  obtain ⟨κ2, e2, t2, g2⟩ := c_copySt N hA (hb4.chg g7) (hd4.chg g7) (by omega) (hT.chg g7 (fun r z1 z2 z3 => by unfold Lr at z3; omega))
  refine ⟨κ2, ?_, ?_, t2, g7.trans (g2.mono (fun r z => by unfold Ls at z; unfold Lr; omega))⟩
  · unfold p_Book_copyFrom
    simp -implicitDefEqProofs only [hb, hd, hb4, k0, k10, kk12, ck_1, bo_s, lt_s9, hv, isK_ai, fr_ai, ln_ai, fi_ai, isK_fi, fr_fi, ln_fi, ai_fi, fi_fi, ai_ai, n0, n1, n2, n3, n4, n5, n6, false_and, if_false, decide_true, Nat.zero_add, Nat.le_refl, bo_id]
    exact e2
  · have g3 : Chg A (Ls (b + 4)) _ κ2 := g2
    refine Bk.chg (b := b) (κ := (sai (A (b + 3)) (va_cpy (ai κ (A (d + 3))) (ai κ (A (b + 3))) 0 0 12) (sai (A (b + 2)) (va_cpy (ai κ (A (d + 2))) (ai κ (A (b + 2))) 0 0 12) (sai (A (b + 1)) (va_cpy (ai κ (A (d + 1))) (ai κ (A (b + 1))) 0 0 10) (sfi (A b) 3 (fi κ (A d) 3) (sfi (A b) 2 (fi κ (A d) 2) (sfi (A b) 1 (fi κ (A d) 1) (sfi (A b) 0 (fi κ (A d) 0) κ)))))))) ?_ g3 (fun r z1 z2 z3 => by unfold Ls at z3; omega)
    refine ⟨?_, ?_, ?_, ?_, ?_, ?_, ?_⟩
    · simp only [fi_ai]
      rw [fi_fi, if_neg (by simp), fi_fi, if_neg (by simp), fi_fi, if_neg (by simp), fi_fi, if_pos ⟨rfl, rfl⟩]; exact s1
    · simp only [fi_ai]
      rw [fi_fi, if_neg (by simp), fi_fi, if_neg (by simp), fi_fi, if_pos ⟨rfl, rfl⟩]; exact s2
    · simp only [fi_ai]
      rw [fi_fi, if_neg (by simp), fi_fi, if_pos ⟨rfl, rfl⟩]; exact s3
    · simp only [fi_ai]
      rw [fi_fi, if_pos ⟨rfl, rfl⟩]; exact s4
    · intro i hi
      rw [ai_ai, if_neg n8, ai_ai, if_neg n7, ai_ai, if_pos rfl, cpy10 _ _ hi]; exact s5 i hi
    · intro i hi
      rw [ai_ai, if_neg n9, ai_ai, if_pos rfl, cpy12 _ _ hi]; exact s6 i hi
    · intro i hi
      rw [ai_ai, if_pos rfl, cpy12 _ _ hi]; exact s7 i hi
theorem c_copyNt (N : Nat) {A : Nat → Nat} {κ : Cz} {b d : Nat} {S : Nat → Int32} (hA : Inj A) (hb : sNt κ A b) (hd : sNt κ A d) (hn : b + 4 ≤ d ∨ d + 4 ≤ b) (hS : Nt κ A d S) : ∃ κ1, p_Notes_copyFrom N (A b) (A d) κ = some κ1 ∧ Nt κ1 A b S ∧ Chg A (Lr b 4) κ κ1 := by
  have n0 : ¬ A d = A b := hA.ne (by omega)
  have n1 : ¬ A (d + 2) = A (b + 1) := hA.ne (by omega)
  have n2 : ¬ A (d + 3) = A (b + 1) := hA.ne (by omega)
  have n3 : ¬ A (d + 3) = A (b + 2) := hA.ne (by omega)
  have n4 : ¬ A (b + 2) = A (b + 1) := hA.ne (by omega)
  have n5 : ¬ A (b + 3) = A (b + 1) := hA.ne (by omega)
  have n6 : ¬ A (b + 3) = A (b + 2) := hA.ne (by omega)
  have n7 : ¬ A (b + 1) = A (b + 2) := hA.ne (by omega)
  have n8 : ¬ A (b + 1) = A (b + 3) := hA.ne (by omega)
  have n9 : ¬ A (b + 2) = A (b + 3) := hA.ne (by omega)
  obtain ⟨s1, s2⟩ := hS
  unfold p_Notes_copyFrom
  simp -implicitDefEqProofs only [hb, hd, k0, k10, ck_1, bo_s, lt_s9, isK_ai, fr_ai, ln_ai, fi_ai, isK_fi, fr_fi, ln_fi, ai_fi, fi_fi, ai_ai, n0, n1, n2, n3, n4, n5, n6, false_and, if_false, decide_true, Nat.zero_add, Nat.le_refl]
  refine ⟨_, rfl, ⟨?_, fun i hi h10 => ?_⟩, ?_⟩
  · simp only [fi_ai]
    rw [fi_fi, if_pos ⟨rfl, rfl⟩]; exact s1
  · rw [ai_ai, if_neg n8, ai_ai, if_neg n7, ai_ai, if_pos rfl, cpy10 _ _ h10, ai_ai, if_neg n9, ai_ai, if_pos rfl, cpy10 _ _ h10, ai_ai, if_pos rfl, cpy10 _ _ h10]
    exact s2 i hi h10
  · refine Chg.trans (Chg.trans (Chg.trans (Chg.sfi hA κ (r := b) ?_ _ _) (Chg.sai hA _ (r := b + 1) ?_ _)) (Chg.sai hA _ (r := b + 2) ?_ _)) (Chg.sai hA _ (r := b + 3) ?_ _) <;> exact ⟨by omega, by omega⟩
theorem sBk.chg {κ κ1 : Cz} {A : Nat → Nat} {L : Nat → Prop} {b : Nat} (h : sBk κ A b) (g : Chg A L κ κ1) : sBk κ1 A b := by
  simp only [sBk, g.isK, g.fr, g.ln]
  exact h
theorem sNt.chg {κ κ1 : Cz} {A : Nat → Nat} {L : Nat → Prop} {b : Nat} (h : sNt κ A b) (g : Chg A L κ κ1) : sNt κ1 A b := by
  simp only [sNt, g.isK, g.fr, g.ln]
  exact h
theorem c_copyWd (N : Nat) {A : Nat → Nat} {κ : Cz} {b d : Nat} {S : Nat → Int32} {f x : Int32} (hA : Inj A) (hb : sWd κ A b) (hd : sWd κ A d) (hn : b + 17 ≤ d ∨ d + 17 ≤ b) (hS : Wd κ A d S f x) (h01 : S 0 = 1 ∨ S 0 = 0) : ∃ κ1, p_World_copyFrom N (A b) (A d) κ = some κ1 ∧ Wd κ1 A b S f x ∧ Chg A (Lr b 17) κ κ1 := by
  obtain ⟨w1, w2, w3, w4, w5, w6⟩ := hS
  obtain ⟨κ1, e1, q1, q2, g1⟩ := c_copyBk N hA hb.2.1 hd.2.1 hb.2.2.1 hd.2.2.1 (by omega) w1 w2 h01
  have hb1 := hb.chg g1
  have hd1 := hd.chg g1
  obtain ⟨κ2, e2, q3, g2⟩ := c_copySt N hA hb1.2.2.2.1 hd1.2.2.2.1 (by omega) (w3.chg g1 (fun r z1 z2 z3 => by unfold Lr at z3; omega))
  have hb2 := hb1.chg g2
  have hd2 := hd1.chg g2
  have w42 : Nt κ2 A (d + 13) S := (w4.chg g1 (fun r z1 z2 z3 => by unfold Lr at z3; omega)).chg g2 (fun r z1 z2 z3 => by unfold Ls at z3; omega)
  obtain ⟨κ3, e3, q4, g3⟩ := c_copyNt N hA hb2.2.2.2.2 hd2.2.2.2.2 (by omega) w42
  have hb3 := hb2.chg g3
  have hd3 := hd2.chg g3
  have n0 : ¬ A d = A b := hA.ne (by omega)
  have v3 : fi κ3 (A d) 3 = f := by
    rw [g3.fi (by unfold Lr; omega), g2.fi (by unfold Ls; omega), g1.fi (by unfold Lr; omega)]; exact w5
  have v4 : fi κ3 (A d) 4 = x := by
    rw [g3.fi (by unfold Lr; omega), g2.fi (by unfold Ls; omega), g1.fi (by unfold Lr; omega)]; exact w6
  have g4 : Chg A (fun r => r = b) κ3 (sfi (A b) 4 x (sfi (A b) 3 f κ3)) := (Chg.sfi (L := fun r => r = b) hA κ3 (r := b) rfl _ _).trans (Chg.sfi (L := fun r => r = b) hA _ (r := b) rfl _ _)
  refine ⟨sfi (A b) 4 x (sfi (A b) 3 f κ3), ?_, ⟨?_, ?_, ?_, ?_, ?_, ?_⟩, ?_⟩
  · unfold p_World_copyFrom
    simp -implicitDefEqProofs only [hb, hd, ck_1, bo_s, e1, hb1, hd1, e2, hb2, hd2, e3, hb3, hd3, lt_s9, v3, fi_fi, n0, false_and, if_false, v4]
  · exact ((q1.chg g2 (fun r z1 z2 z3 => by unfold Ls at z3; omega)).chg g3 (fun r z1 z2 z3 => by unfold Lr at z3; omega)).chg g4 (fun r z1 z2 z3 => by omega)
  · exact ((q2.chg g2 (fun r z1 z2 z3 => by unfold Ls at z3; omega)).chg g3 (fun r z1 z2 z3 => by unfold Lr at z3; omega)).chg g4 (fun r z1 z2 z3 => by omega)
  · exact (q3.chg g3 (fun r z1 z2 z3 => by unfold Lr at z3; omega)).chg g4 (fun r z1 z2 z3 => by omega)
  · exact q4.chg g4 (fun r z1 z2 z3 => by omega)
  · rw [fi_fi, if_neg (by simp), fi_fi, if_pos ⟨rfl, rfl⟩]
  · rw [fi_fi, if_pos ⟨rfl, rfl⟩]
  · exact (((g1.mono (fun r z => by unfold Lr at z ⊢; omega)).trans (g2.mono (fun r z => by unfold Ls at z; unfold Lr; omega))).trans (g3.mono (fun r z => by unfold Lr at z ⊢; omega))).trans (g4.mono (fun r z => by unfold Lr; omega))
theorem Nt.cong {κ : Cz} {A : Nat → Nat} {b : Nat} {S T : Nat → Int32} (h : Nt κ A b S) (e : ∀ j, j < 129 → S j = T j) : Nt κ A b T := by
  obtain ⟨h1, h2⟩ := h
  refine ⟨h1.trans (e _ (by omega)), fun i hi h10 => ?_⟩
  rw [← e 128 (by omega)] at hi
  obtain ⟨a, b', c⟩ := h2 i hi h10
  exact ⟨a.trans (e _ (by omega)), b'.trans (e _ (by omega)), c.trans (e _ (by omega))⟩
theorem Wd.cong {κ : Cz} {A : Nat → Nat} {b : Nat} {S T : Nat → Int32} {f x : Int32} (h : Wd κ A b S f x) (e : ∀ j, j < 129 → S j = T j) : Wd κ A b T f x := ⟨h.1.congr' (fun j hj => e j (by omega)), h.2.1.congr (fun j z1 z2 => begS_c (fun i hi => e i (by omega)) j (by omega)), h.2.2.1.congr (fun j z1 z2 => e j (by omega)), h.2.2.2.1.cong e, h.2.2.2.2⟩
theorem OkW.cong {S T : Nat → Int32} (h : OkW S) (e : ∀ j, j < 129 → S j = T j) : OkW T := by
  obtain ⟨c, hh, ee, q, n, a1, a2, a3, a4, a5, a6, a7, a8, a9, a10, a11, a12, a13, a14, a15⟩ := h
  have r : ∀ j, j < 129 → T j = S j := fun j hj => (e j hj).symm
  refine ⟨c, hh, ee, q, n, a1, (r _ (by omega)).trans a2, a3, (r _ (by omega)).trans a4, a5, (r _ (by omega)).trans a6, ⟨by rw [r _ (by omega)]; exact a7.1, fun k hk => by rw [r _ (by omega)]; exact a7.2 k hk⟩, fun k hk => by rw [r _ (by omega)]; exact a8 k hk, ⟨fun k hk => by rw [r _ (by omega), r _ (by omega)]; exact a9.1 k hk, fun k hk => by rw [r _ (by omega), r _ (by omega)]; exact a9.2 k hk⟩, by rw [r _ (by omega)]; exact a10, a11, (r _ (by omega)).trans a12, a13, (r _ (by omega)).trans a14, fun i hi => ?_⟩
  unfold NtV
  rw [r _ (by omega), r _ (by omega), r _ (by omega)]
  exact a15 i hi
theorem OkW.h01 {S : Nat → Int32} (h : OkW S) : S 0 = 1 ∨ S 0 = 0 := by
  obtain ⟨c, hh, e, q, n, hO⟩ := h
  exact told_or hO
def bkF (S W : Nat → Int32) (k i j : Nat) : Int32 := if j < i then W (129 * k + j) else S j
theorem bkF_s (S W : Nat → Int32) (k i : Nat) : upd (bkF S W k i) i (W (129 * k + i)) = bkF S W k (i + 1) := by
  funext j
  rw [upd_at]
  unfold bkF
  by_cases h : j = i
  · rw [if_pos h, if_pos (by omega), h]
  · rw [if_neg h]
    by_cases h2 : j < i
    · rw [if_pos h2, if_pos (by omega)]
    · rw [if_neg h2, if_neg (by omega)]
theorem m_back50 (N : Nat) (hN : 20000 ≤ N) (μ : Mz) {k : Nat} (hk : k < 4) : b12_back_50 N N (nI k) 0 μ = some (ga 17 μ (129 * k + 10), sa 7 (bkF (ga 7 μ) (ga 17 μ) k 129) μ) := by
  have L := upL 129 (fun f i => b12_back_50 N f (nI k) (nI i) (sa 7 (bkF (ga 7 μ) (ga 17 μ) k i) μ) = some (ga 17 μ (129 * k + 10), sa 7 (bkF (ga 7 μ) (ga 17 μ) k 129) μ)) (by
    intro f
    rw [b12_back_50, if_pos (show (129 : Int32) ≤ nI 129 from nI_le (a := 129) (b := 129) (by omega) (by omega)), ga_sa]
    rfl) (by
    intro f i hi ih
    have e1 : (129 : Int32) * nI k + nI i = nI (129 * k + i) := by rw [show (129 : Int32) = nI 129 from rfl, pk_mul, nI_add]
    rw [b12_back_50, if_neg (show ¬ (129 : Int32) ≤ nI i from nI_ge (b := 129) hi (by omega)), e1]
    simp only [lt_s9, ck_1, inbT hi (by decide), inbT (show 129 * k + i < 516 by omega) (by decide), clN (show i < 2147483648 by omega), clN (show 129 * k + i < 2147483648 by omega), ga_sa, ga_sa_ne (show 17 ≠ 7 by decide), sa_sa, bkF_s, nI_1]
    exact ih) N 0 (by omega) (by omega)
  have e : sa 7 (bkF (ga 7 μ) (ga 17 μ) k 0) μ = μ := by
    have : bkF (ga 7 μ) (ga 17 μ) k 0 = ga 7 μ := by
      funext j
      unfold bkF
      rw [if_neg (by omega)]
    rw [this, sa_ga]
  rw [e, nI_0] at L
  exact L
theorem sm_back (N : Nat) (hN : 20000 ≤ N) (x0 : Nat) : Sm_back N x0 (Rel x0) := by
  rintro κ μ a1 ⟨A, rfl, hR⟩
  have hs := hR.sh
  have hA := hs.inj
  unfold p_ErrataRow_back p12_back
  simp -implicitDefEqProofs only [c_within, m_in N a1 0 3 0 3 (by decide) (by decide), bd_s, bo_s, ite10, hs.top, ck_1]
  by_cases hw : 0 ≤ a1 ∧ a1 ≤ 3
  · rw [if_pos hw, if_pos hw]
    obtain ⟨k, hk, rfl⟩ := in_nat 3 (by omega) rfl hw
    have hk4 : k < 4 := by omega
    simp -implicitDefEqProofs only [inbT hk4 (by decide), ck_1, clN (show k < 2147483648 by omega), lt_s9]
    rcases hR.im k hk4 with ⟨z1, z2⟩ | ⟨z1, z2, z3, z4, z5, z6⟩
    · rw [z1, if_pos rfl, z2, oc_n]
      exact ⟨-1, κ, μ, rfl, rfl, A, rfl, hR⟩
    · rw [z1, if_neg ne10, z2, oc_s]
      have sw : sWd κ A (200 + 17 * k) := by
        rcases hs.im k hk4 with y | y
        · rw [z2] at y; exact absurd y (fun y => (nomatch y))
        · exact y.2
      obtain ⟨κ1, e1, w1, g1⟩ := c_copyWd N hA hs.wd20 sw (by omega) z3 z4.h01
      have hs1 := hs.chg g1
      have g2 : Chg A (fun r => r = 38) κ1 (sfi (A 38) 0 0 κ1) := Chg.sfi (L := fun r => r = 38) hA κ1 (r := 38) rfl _ _
      have hs2 := hs1.chg g2
      have ef : p_History_forget N (A 38) κ1 = some (sfi (A 38) 0 0 κ1) := by
        unfold p_History_forget
        simp -implicitDefEqProofs only [hs1.hi, ck_1, lt_s9]
      have w2 := w1.chg g2 (fun r y1 y2 y3 => by omega)
      have f5 : fi (sfi (A 38) 0 0 κ1) (A 29) 5 = ga 17 μ (129 * k + 10) := w2.2.2.1.1
      have mb := m_back50 N hN (si 16 0 (si 12 (ga 19 (si 11 (ga 18 μ k) μ) k) (si 11 (ga 18 μ k) μ))) hk4
      simp -implicitDefEqProofs only [hs.w20, ck_1, bo_s, e1, hs1.top, hs1.hi, ef, hs2.top, hs2.w20, f5, mb]
      simp only [ga_si]
      have ej : ∀ j, j < 129 → imS μ k j = bkF (ga 7 μ) (ga 17 μ) k 129 j := by
        intro j hj
        unfold imS bkF
        rw [if_pos hj]
      have gg : Chg A (fun r => (20 ≤ r ∧ r ≤ 36) ∨ r = 38) κ (sfi (A 38) 0 0 κ1) := (g1.mono (fun r y => by unfold Lr at y; omega)).trans (g2.mono (fun r y => by omega))
      refine ⟨_, _, _, rfl, rfl, A, rfl, hR.gen gg.ch (fun r y => by omega) ?_ ?_ ?_ ?_ ?_ ?_ ?_ ?_ ?_ (by rw [gg.fi (by omega)]) (hR.tp.ch (by rw [gg.fi (by omega)]) (gg.ai (by omega)) ?_ ?_) ?_ ?_ ?_ ?_ ?_⟩
      · simp [gi_sa, gi_si_ne]
      · simp [gi_sa, gi_si_ne]
      · rw [ga_sa_ne (by decide)]; rfl
      · rw [ga_sa_ne (by decide)]; rfl
      · rw [ga_sa_ne (by decide)]; rfl
      · rw [ga_sa_ne (by decide)]; rfl
      · rw [ga_sa_ne (by decide)]; rfl
      · rw [ga_sa_ne (by decide)]; rfl
      · rw [ga_sa_ne (by decide)]; rfl
      · simp [gi_sa, gi_si_ne]
      · rw [ga_sa_ne (by decide)]; rfl
      · rw [ga_sa, gi_sa, gi_si_ne (by decide), gi_si_ne (by decide), gi_si, gi_sa, gi_si_ne (by decide), gi_si]
        exact w2.cong ej
      · rw [ga_sa]; exact z4.cong ej
      · rw [gi_sa, gi_si_ne (by decide), gi_si_ne (by decide), gi_si, gi_sa, gi_si_ne (by decide), gi_si_ne (by decide), gi_si_ne (by decide)]; exact z5
      · rw [gi_sa, gi_si_ne (by decide), gi_si]; exact z6
      · obtain ⟨u, nx, u1, u2, u3, u4, u5, u6⟩ := hR.hy
        refine ⟨0, nx, by omega, u2, by rw [fi_fi, if_pos ⟨rfl, rfl⟩]; rfl, ?_, by rw [gi_sa, gi_si]; rfl, fun j hj => absurd hj (by omega)⟩
        rw [fi_fi, if_neg (by simp), g1.fi (by unfold Lr; omega)]; exact u4
  · rw [if_neg hw, if_neg hw]
    exact ⟨-1, κ, μ, rfl, rfl, A, rfl, hR⟩
