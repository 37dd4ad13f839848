/-! the book as it is read: a habit -/
theorem c_addHabit (N : Nat) {A : Nat → Nat} {κ : Cz} {R : Nat → Int32} {c : Nat} {a b : Int32} (hs : Sh κ A) (hc : c < 12) (h2 : R 2 = nI c) (hR : RB κ A R) : ∃ κ1, p_Book_addHabit N (A 7) a b κ = some κ1 ∧ RB κ1 A (upd (upd (upd R (73 + 2 * c) a) (73 + 2 * c + 1) b) 2 (nI (c + 1))) ∧ Chg A L714 κ κ1 := by
  have hA := hs.inj
  obtain ⟨⟨r1, r2, r3, r4, r5, r6⟩, s1, s2, s3, s4, s5, s6⟩ := hR
  have n1 : ¬ A 10 = A 9 := hA.ne (by decide)
  unfold p_Book_addHabit
  simp -implicitDefEqProofs only [hs.bR, ck_1, bo_s, r3, h2, lt_s9, isK_ai, fr_ai, ln_ai, fi_ai, ai_ai, if_neg n1, inbT hc (by decide), clN (show c < 2147483648 by omega), nI_1]
  rw [if_neg (show ¬ (12 : Int32) ≤ nI c from nI_ge (b := 12) hc (by omega))]
  have g : Chg A L714 κ (sfi (A 7) 3 (nI (c + 1)) (sai (A 10) (upd (ai κ (A 10)) c b) (sai (A 9) (upd (ai κ (A 9)) c a) κ))) := ((Chg.sai (L := L714) hA κ (r := 9) (by unfold L714; omega) _).trans (Chg.sai (L := L714) hA _ (r := 10) (by unfold L714; omega) _)).trans (Chg.sfi (L := L714) hA _ (r := 7) (by unfold L714; omega) _ _)
  have u : ∀ j, j ≠ 2 → j ≠ 73 + 2 * c → j ≠ 73 + 2 * c + 1 → upd (upd (upd R (73 + 2 * c) a) (73 + 2 * c + 1) b) 2 (nI (c + 1)) j = R j := fun j h1 h2 h3 => by rw [upd_at, if_neg h1, upd_at, if_neg h3, upd_at, if_neg h2]
  have f7 : ∀ i, i ≠ 3 → fi (sfi (A 7) 3 (nI (c + 1)) (sai (A 10) (upd (ai κ (A 10)) c b) (sai (A 9) (upd (ai κ (A 9)) c a) κ))) (A 7) i = fi κ (A 7) i := fun i hi => by rw [fi_fi, if_neg (fun z => hi z.2), fi_ai, fi_ai]
  have f11 : ∀ i, fi (sfi (A 7) 3 (nI (c + 1)) (sai (A 10) (upd (ai κ (A 10)) c b) (sai (A 9) (upd (ai κ (A 9)) c a) κ))) (A 11) i = fi κ (A 11) i := fun i => by rw [fi_fi, if_neg (fun z => hA.ne (show 11 ≠ 7 by decide) z.1), fi_ai, fi_ai]
  have ao : ∀ r, r ≠ 9 → r ≠ 10 → ai (sfi (A 7) 3 (nI (c + 1)) (sai (A 10) (upd (ai κ (A 10)) c b) (sai (A 9) (upd (ai κ (A 9)) c a) κ))) (A r) = ai κ (A r) := fun r h1 h2 => by rw [ai_fi, ai_ai, if_neg (hA.ne h2), ai_ai, if_neg (hA.ne h1)]
  refine ⟨_, rfl, ⟨⟨?_, ?_, ?_, fun i hi => ?_, fun i hi => ?_, fun i hi => ?_⟩, ?_, ?_, ?_, fun i hi => ?_, fun i hi => ?_, fun i hi => ?_⟩, g⟩
  · rw [f7 1 (by decide), u 1 (by omega) (by omega) (by omega)]; exact r1
  · rw [f7 2 (by decide), u 3 (by omega) (by omega) (by omega)]; exact r2
  · rw [fi_fi, if_pos ⟨rfl, rfl⟩, upd_at, if_pos rfl]
  · rw [ao 8 (by decide) (by decide), u _ (by omega) (by omega) (by omega)]; exact r4 i hi
  · rw [ai_fi, ai_ai, if_neg (fun z => n1 z.symm), ai_ai, if_pos rfl, upd_at, upd_at, if_neg (show ¬ 73 + 2 * i = 2 by omega), upd_at, if_neg (show ¬ 73 + 2 * i = 73 + 2 * c + 1 by omega), upd_at]
    by_cases q : i = c
    · subst q; rw [if_pos rfl, if_pos rfl]
    · rw [if_neg q, if_neg (show ¬ 73 + 2 * i = 73 + 2 * c by omega)]; exact r5 i hi
  · rw [ai_fi, ai_ai, if_pos rfl, upd_at, upd_at, if_neg (show ¬ 73 + 2 * i + 1 = 2 by omega), upd_at]
    by_cases q : i = c
    · subst q; rw [if_pos rfl, if_pos rfl]
    · rw [if_neg q, if_neg (show ¬ 73 + 2 * i + 1 = 73 + 2 * c + 1 by omega), upd_at, if_neg (show ¬ 73 + 2 * i + 1 = 73 + 2 * c by omega)]; exact r6 i hi
  · rw [f11]; exact s1
  · rw [f11, u 97 (by omega) (by omega) (by omega)]; exact s2
  · rw [f11]; exact s3
  · rw [ao 12 (by decide) (by decide), u _ (by omega) (by omega) (by omega)]; exact s4 i hi
  · rw [ao 13 (by decide) (by decide)]; exact s5 i hi
  · rw [ao 14 (by decide) (by decide), u _ (by omega) (by omega) (by omega)]; exact s6 i hi
