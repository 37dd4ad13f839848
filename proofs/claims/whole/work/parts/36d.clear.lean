/-! the book as it is read: begun anew, all -/
theorem c_clear (N : Nat) (hN : 20000 ≤ N) {A : Nat → Nat} {κ : Cz} (hs : Sh κ A) : ∃ κ1, p_Book_clear N (A 7) κ = some κ1 ∧ RB κ1 A (fun _ => 0) ∧ Chg A L714 κ κ1 := by
  have hA := hs.inj
  have st : ∀ (κ : Cz), Sh κ A → ∀ r j v, L714 r → Chg A L714 κ (sfi (A r) j v κ) := fun κ _ r j v h => Chg.sfi (L := L714) hA κ (r := r) h _ _
  have sa' : ∀ (κ : Cz) r f, L714 r → Chg A L714 κ (sai (A r) f κ) := fun κ r f h => Chg.sai (L := L714) hA κ (r := r) h _
  have l : ∀ r, 7 ≤ r → r ≤ 14 → L714 r := fun r h1 h2 => ⟨h1, h2⟩
  -- the four fields
  have g5 : Chg A L714 κ (sfi (A 7) 3 0 (sfi (A 7) 2 0 (sfi (A 7) 1 0 (sfi (A 7) 0 0 κ)))) := (((Chg.sfi (L := L714) hA κ (r := 7) (l 7 (by omega) (by omega)) _ _).trans (Chg.sfi (L := L714) hA _ (r := 7) (l 7 (by omega) (by omega)) _ _)).trans (Chg.sfi (L := L714) hA _ (r := 7) (l 7 (by omega) (by omega)) _ _)).trans (Chg.sfi (L := L714) hA _ (r := 7) (l 7 (by omega) (by omega)) _ _)
  have f5 : ∀ i, 1 ≤ i → i ≤ 3 → fi (sfi (A 7) 3 0 (sfi (A 7) 2 0 (sfi (A 7) 1 0 (sfi (A 7) 0 0 κ)))) (A 7) i = 0 := by
    intro i h1 h2
    match i, h1, h2 with
    | 1, _, _ => rw [fi_fi, if_neg (by simp), fi_fi, if_neg (by simp), fi_fi, if_pos ⟨rfl, rfl⟩]
    | 2, _, _ => rw [fi_fi, if_neg (by simp), fi_fi, if_pos ⟨rfl, rfl⟩]
    | 3, _, _ => rw [fi_fi, if_pos ⟨rfl, rfl⟩]
  have hs5 := hs.chg g5
  generalize hκ5 : sfi (A 7) 3 0 (sfi (A 7) 2 0 (sfi (A 7) 1 0 (sfi (A 7) 0 0 κ))) = κ5 at g5 f5 hs5
  have e8 := c_fill N hN (κ := κ5) (a := A 8) (m := 10) hs5.st7.2.2.2.2.2.1 hs5.st7.2.2.2.2.2.2.1 (by omega) 0
  have g8 := sa' κ5 8 (flF (ai κ5 (A 8)) 0 10) (l 8 (by omega) (by omega))
  have hs8 := hs5.chg g8
  generalize hκ8 : sai (A 8) (flF (ai κ5 (A 8)) 0 10) κ5 = κ8 at e8 g8 hs8
  have e9 := c_fill N hN (κ := κ8) (a := A 9) (m := 12) hs8.st7.2.2.2.2.2.2.2.1 hs8.st7.2.2.2.2.2.2.2.2.1 (by omega) 0
  have g9 := sa' κ8 9 (flF (ai κ8 (A 9)) 0 12) (l 9 (by omega) (by omega))
  have hs9 := hs8.chg g9
  generalize hκ9 : sai (A 9) (flF (ai κ8 (A 9)) 0 12) κ8 = κ9 at e9 g9 hs9
  have e10 := c_fill N hN (κ := κ9) (a := A 10) (m := 12) hs9.st7.2.2.2.2.2.2.2.2.2.1 hs9.st7.2.2.2.2.2.2.2.2.2.2 (by omega) 0
  have g10 := sa' κ9 10 (flF (ai κ9 (A 10)) 0 12) (l 10 (by omega) (by omega))
  have hs10 := hs9.chg g10
  generalize hκ10 : sai (A 10) (flF (ai κ9 (A 10)) 0 12) κ9 = κ10 at e10 g10 hs10
  have e12 := c_fill N hN (κ := κ10) (a := A 12) (m := 10) hs10.st11.2.2.2.2.1 hs10.st11.2.2.2.2.2.1 (by omega) 0
  have g12 := sa' κ10 12 (flF (ai κ10 (A 12)) 0 10) (l 12 (by omega) (by omega))
  have hs12 := hs10.chg g12
  generalize hκ12 : sai (A 12) (flF (ai κ10 (A 12)) 0 10) κ10 = κ12 at e12 g12 hs12
  have e13 := c_fill N hN (κ := κ12) (a := A 13) (m := 10) hs12.st11.2.2.2.2.2.2.1 hs12.st11.2.2.2.2.2.2.2.1 (by omega) 0
  have g13 := sa' κ12 13 (flF (ai κ12 (A 13)) 0 10) (l 13 (by omega) (by omega))
  have hs13 := hs12.chg g13
  generalize hκ13 : sai (A 13) (flF (ai κ12 (A 13)) 0 10) κ12 = κ13 at e13 g13 hs13
  have e14 := c_fill N hN (κ := κ13) (a := A 14) (m := 10) hs13.st11.2.2.2.2.2.2.2.2.1 hs13.st11.2.2.2.2.2.2.2.2.2 (by omega) 0
  have g14 := sa' κ13 14 (flF (ai κ13 (A 14)) 0 10) (l 14 (by omega) (by omega))
  have hs14 := hs13.chg g14
  generalize hκ14 : sai (A 14) (flF (ai κ13 (A 14)) 0 10) κ13 = κ14 at e14 g14 hs14
  have g15 : Chg A L714 κ14 (sfi (A 11) 5 0 (sfi (A 11) 4 0 (sfi (A 11) 3 0 κ14))) := ((Chg.sfi (L := L714) hA κ14 (r := 11) (l 11 (by omega) (by omega)) _ _).trans (Chg.sfi (L := L714) hA _ (r := 11) (l 11 (by omega) (by omega)) _ _)).trans (Chg.sfi (L := L714) hA _ (r := 11) (l 11 (by omega) (by omega)) _ _)
  refine ⟨sfi (A 11) 5 0 (sfi (A 11) 4 0 (sfi (A 11) 3 0 κ14)), ?_, ?_, ((((((g5.trans g8).trans g9).trans g10).trans g12).trans g13).trans g14).trans g15⟩
  · unfold p_Book_clear p_State_clear
    simp -implicitDefEqProofs only [hs.bR, ck_1, lt_s9, hκ5, hs5.bR, bo_s, e8, hs8.bR, e9, hs9.bR, e10, hs10.bR, e12, hs12.bR, e13, hs13.bR, e14, hs14.bR]
  · have x : ∀ r q, r ≠ q → ¬ A r = A q := fun r q h => hA.ne h
    have f7 : fi (sfi (A 11) 5 0 (sfi (A 11) 4 0 (sfi (A 11) 3 0 κ14))) (A 7) = fi κ5 (A 7) := by
      funext i
      rw [fi_fi, if_neg (fun z => x 7 11 (by decide) z.1), fi_fi, if_neg (fun z => x 7 11 (by decide) z.1), fi_fi, if_neg (fun z => x 7 11 (by decide) z.1), ← hκ14, fi_ai, ← hκ13, fi_ai, ← hκ12, fi_ai, ← hκ10, fi_ai, ← hκ9, fi_ai, ← hκ8, fi_ai]
    refine ⟨⟨by rw [f7]; exact f5 1 (by omega) (by omega), by rw [f7]; exact f5 2 (by omega) (by omega), by rw [f7]; exact f5 3 (by omega) (by omega), fun i hi => ?_, fun i hi => ?_, fun i hi => ?_⟩, by rw [fi_fi, if_pos ⟨rfl, rfl⟩], by rw [fi_fi, if_neg (by simp), fi_fi, if_neg (by simp), fi_fi, if_pos ⟨rfl, rfl⟩], by rw [fi_fi, if_neg (by simp), fi_fi, if_pos ⟨rfl, rfl⟩], fun i hi => ?_, fun i hi => ?_, fun i hi => ?_⟩
    · rw [ai_fi, ai_fi, ai_fi, ← hκ14, ai_ai, if_neg (x 8 14 (by decide)), ← hκ13, ai_ai, if_neg (x 8 13 (by decide)), ← hκ12, ai_ai, if_neg (x 8 12 (by decide)), ← hκ10, ai_ai, if_neg (x 8 10 (by decide)), ← hκ9, ai_ai, if_neg (x 8 9 (by decide)), ← hκ8, ai_ai, if_pos rfl]; exact flF_at _ _ hi
    · rw [ai_fi, ai_fi, ai_fi, ← hκ14, ai_ai, if_neg (x 9 14 (by decide)), ← hκ13, ai_ai, if_neg (x 9 13 (by decide)), ← hκ12, ai_ai, if_neg (x 9 12 (by decide)), ← hκ10, ai_ai, if_neg (x 9 10 (by decide)), ← hκ9, ai_ai, if_pos rfl]; exact flF_at _ _ hi
    · rw [ai_fi, ai_fi, ai_fi, ← hκ14, ai_ai, if_neg (x 10 14 (by decide)), ← hκ13, ai_ai, if_neg (x 10 13 (by decide)), ← hκ12, ai_ai, if_neg (x 10 12 (by decide)), ← hκ10, ai_ai, if_pos rfl]; exact flF_at _ _ hi
    · rw [ai_fi, ai_fi, ai_fi, ← hκ14, ai_ai, if_neg (x 12 14 (by decide)), ← hκ13, ai_ai, if_neg (x 12 13 (by decide)), ← hκ12, ai_ai, if_pos rfl]; exact flF_at _ _ hi
    · rw [ai_fi, ai_fi, ai_fi, ← hκ14, ai_ai, if_neg (x 13 14 (by decide)), ← hκ13, ai_ai, if_pos rfl]; exact flF_at _ _ hi
    · rw [ai_fi, ai_fi, ai_fi, ← hκ14, ai_ai, if_pos rfl]; exact flF_at _ _ hi
