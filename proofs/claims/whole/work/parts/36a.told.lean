/-! the book as it is read: the class's, the reference's R -/
def RB (κ : Cz) (A : Nat → Nat) (R : Nat → Int32) : Prop := (fi κ (A 7) 1 = R 1 ∧ fi κ (A 7) 2 = R 3 ∧ fi κ (A 7) 3 = R 2 ∧ (∀ i, i < 10 → ai κ (A 8) i = R (43 + i)) ∧ (∀ i, i < 12 → ai κ (A 9) i = R (73 + 2 * i)) ∧ ∀ i, i < 12 → ai κ (A 10) i = R (73 + 2 * i + 1)) ∧ fi κ (A 11) 5 = 0 ∧ fi κ (A 11) 3 = R 97 ∧ fi κ (A 11) 4 = 0 ∧ (∀ i, i < 10 → ai κ (A 12) i = R (53 + i)) ∧ (∀ i, i < 10 → ai κ (A 13) i = 0) ∧ ∀ i, i < 10 → ai κ (A 14) i = R (63 + i)
def L714 (r : Nat) : Prop := 7 ≤ r ∧ r ≤ 14
theorem c_addLetter (N : Nat) {A : Nat → Nat} {κ : Cz} {R : Nat → Int32} {c : Nat} {a b : Int32} (hs : Sh κ A) (hc : c < 10) (h3 : R 3 = nI c) (hR : RB κ A R) : ∃ κ1, p_Book_addLetter N (A 7) a b κ = some κ1 ∧ RB κ1 A (upd (upd (upd R (53 + c) a) (43 + c) b) 3 (nI (c + 1))) ∧ Chg A L714 κ κ1 := by
  have hA := hs.inj
  obtain ⟨⟨r1, r2, r3, r4, r5, r6⟩, s1, s2, s3, s4, s5, s6⟩ := hR
  have n1 : ¬ A 8 = A 12 := hA.ne (by decide)
  unfold p_Book_addLetter
  simp -implicitDefEqProofs only [hs.bR, ck_1, bo_s, r2, h3, lt_s9, isK_ai, fr_ai, ln_ai, fi_ai, ai_ai, if_neg n1, inbT hc (by decide), clN (show c < 2147483648 by omega), nI_1]
  rw [if_neg (show ¬ (10 : Int32) ≤ nI c from nI_ge (b := 10) hc (by omega))]
  have g : Chg A L714 κ (sfi (A 7) 2 (nI (c + 1)) (sai (A 8) (upd (ai κ (A 8)) c b) (sai (A 12) (upd (ai κ (A 12)) c a) κ))) := ((Chg.sai (L := L714) hA κ (r := 12) (by unfold L714; omega) _).trans (Chg.sai (L := L714) hA _ (r := 8) (by unfold L714; omega) _)).trans (Chg.sfi (L := L714) hA _ (r := 7) (by unfold L714; omega) _ _)
  have u : ∀ j, j ≠ 3 → j ≠ 43 + c → j ≠ 53 + c → upd (upd (upd R (53 + c) a) (43 + c) b) 3 (nI (c + 1)) j = R j := fun j h1 h2 h3 => by rw [upd_at, if_neg h1, upd_at, if_neg h2, upd_at, if_neg h3]
  have f7 : ∀ i, i ≠ 2 → fi (sfi (A 7) 2 (nI (c + 1)) (sai (A 8) (upd (ai κ (A 8)) c b) (sai (A 12) (upd (ai κ (A 12)) c a) κ))) (A 7) i = fi κ (A 7) i := fun i hi => by rw [fi_fi, if_neg (fun z => hi z.2), fi_ai, fi_ai]
  have f11 : ∀ i, fi (sfi (A 7) 2 (nI (c + 1)) (sai (A 8) (upd (ai κ (A 8)) c b) (sai (A 12) (upd (ai κ (A 12)) c a) κ))) (A 11) i = fi κ (A 11) i := fun i => by rw [fi_fi, if_neg (fun z => hA.ne (show 11 ≠ 7 by decide) z.1), fi_ai, fi_ai]
  have ao : ∀ r, r ≠ 8 → r ≠ 12 → ai (sfi (A 7) 2 (nI (c + 1)) (sai (A 8) (upd (ai κ (A 8)) c b) (sai (A 12) (upd (ai κ (A 12)) c a) κ))) (A r) = ai κ (A r) := fun r h1 h2 => by rw [ai_fi, ai_ai, if_neg (hA.ne h1), ai_ai, if_neg (hA.ne h2)]
  refine ⟨_, rfl, ⟨⟨?_, ?_, ?_, fun i hi => ?_, fun i hi => ?_, fun i hi => ?_⟩, ?_, ?_, ?_, fun i hi => ?_, fun i hi => ?_, fun i hi => ?_⟩, g⟩
  · rw [f7 1 (by decide), u 1 (by omega) (by omega) (by omega)]; exact r1
  · rw [fi_fi, if_pos ⟨rfl, rfl⟩, upd_at, if_pos rfl]
  · rw [f7 3 (by decide), u 2 (by omega) (by omega) (by omega)]; exact r3
  · rw [ai_fi, ai_ai, if_pos rfl, upd_at, upd_at, if_neg (show ¬ 43 + i = 3 by omega), upd_at]
    by_cases q : i = c
    · subst q; rw [if_pos rfl, if_pos rfl]
    · rw [if_neg q, if_neg (show ¬ 43 + i = 43 + c by omega), upd_at, if_neg (show ¬ 43 + i = 53 + c by omega)]; exact r4 i hi
  · rw [ao 9 (by decide) (by decide), u _ (by omega) (by omega) (by omega)]; exact r5 i hi
  · rw [ao 10 (by decide) (by decide), u _ (by omega) (by omega) (by omega)]; exact r6 i hi
  · rw [f11]; exact s1
  · rw [f11, u 97 (by omega) (by omega) (by omega)]; exact s2
  · rw [f11]; exact s3
  · rw [ai_fi, ai_ai, if_neg (fun z => n1 z.symm), ai_ai, if_pos rfl, upd_at, upd_at, if_neg (show ¬ 53 + i = 3 by omega), upd_at, if_neg (show ¬ 53 + i = 43 + c by omega), upd_at]
    by_cases q : i = c
    · subst q; rw [if_pos rfl, if_pos rfl]
    · rw [if_neg q, if_neg (show ¬ 53 + i = 53 + c by omega)]; exact s4 i hi
  · rw [ao 13 (by decide) (by decide)]; exact s5 i hi
  · rw [ao 14 (by decide) (by decide), u _ (by omega) (by omega) (by omega)]; exact s6 i hi
