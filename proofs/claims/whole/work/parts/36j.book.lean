/-! book -/
theorem tp_bytes {κ : Cz} {A : Nat → Nat} {μ : Mz} (hs : Sh κ A) (h : Tp κ A μ) : ∃ (B : Nat → Nat) (t : Nat), TxC B t A κ ∧ TxM B t μ ∧ fi κ (A 0) 1 = nI t := by
  obtain ⟨t, h1, h2, h3, h4⟩ := h
  have hc : ∀ i, ∃ v, i < t → v < 256 ∧ ai κ (A 1) i = nI v ∧ ga 0 μ i = sx v := by
    intro i
    by_cases q : i < t
    · obtain ⟨v, a, b, c⟩ := h4 i q
      exact ⟨v, fun _ => ⟨a, b, c⟩⟩
    · exact ⟨0, fun z => absurd z q⟩
  have hB := fun i => Classical.choose_spec (hc i)
  refine ⟨fun i => Classical.choose (hc i), t, ⟨h1, ?_, ?_, fun i hi => ⟨(hB i hi).1, (hB i hi).2.1⟩⟩, ⟨h1, h3, fun i hi => ⟨(hB i hi).1, (hB i hi).2.2⟩⟩, h2⟩
  · simp -implicitDefEqProofs only [hs.top]
  · simp -implicitDefEqProofs only [hs.top]
theorem RB.congr {κ : Cz} {A : Nat → Nat} {R T : Nat → Int32} (h : RB κ A R) (e : ∀ j, j < 98 → R j = T j) : RB κ A T := by
  obtain ⟨⟨r1, r2, r3, r4, r5, r6⟩, s1, s2, s3, s4, s5, s6⟩ := h
  exact ⟨⟨r1.trans (e _ (by omega)), r2.trans (e _ (by omega)), r3.trans (e _ (by omega)), fun i hi => (r4 i hi).trans (e _ (by omega)), fun i hi => (r5 i hi).trans (e _ (by omega)), fun i hi => (r6 i hi).trans (e _ (by omega))⟩, s1, s2.trans (e _ (by omega)), s3, fun i hi => (s4 i hi).trans (e _ (by omega)), s5, fun i hi => (s6 i hi).trans (e _ (by omega))⟩
/-- what was told is laid out as said -/
def sdF (S R : Nat → Int32) (i j : Nat) : Int32 := if j < i then (if j < 98 then R j else 0) else S j
theorem sdF_s (S R : Nat → Int32) (i : Nat) : upd (sdF S R i) i (if i < 98 then R i else 0) = sdF S R (i + 1) := by
  funext j
  rw [upd_at]
  unfold sdF
  by_cases h : j = i
  · rw [if_pos h, if_pos (show j < i + 1 by omega), h]
  · rw [if_neg h]
    by_cases h2 : j < i
    · rw [if_pos h2, if_pos (show j < i + 1 by omega)]
    · rw [if_neg h2, if_neg (by omega)]
theorem m_book44 (N : Nat) (hN : 20000 ≤ N) (μ : Mz) : b12_book_44 N N 0 μ = some (ga 5 μ 3, si 16 0 (sa 7 (begS (sdF (ga 7 μ) (ga 5 μ) 129)) μ)) := by
  have L := upL 129 (fun f i => b12_book_44 N f (nI i) (sa 7 (sdF (ga 7 μ) (ga 5 μ) i) μ) = some (ga 5 μ 3, si 16 0 (sa 7 (begS (sdF (ga 7 μ) (ga 5 μ) 129)) μ))) (by
    intro f
    rw [b12_book_44, if_pos (show (129 : Int32) ≤ nI 129 from nI_le (a := 129) (b := 129) (by omega) (by omega)), m_begins N hN, bo_s, lt_s9, ga_sa, sa_sa, ga_si, ga_sa, k3]
    rfl) (by
    intro f i hi ih
    rw [b12_book_44, if_neg (show ¬ (129 : Int32) ≤ nI i from nI_ge (b := 129) hi (by omega))]
    have s := sdF_s (ga 7 μ) (ga 5 μ) i
    by_cases q : i < 98
    · rw [if_pos q] at s
      rw [if_neg (show ¬ (98 : Int32) ≤ nI i from nI_ge (b := 98) q (by omega))]
      simp -implicitDefEqProofs only [lt_s9, ck_1, inbT hi (by decide), inbT q (by decide), clN (show i < 2147483648 by omega), ga_sa, ga_sa_ne (show 5 ≠ 7 by decide), sa_sa, s, nI_1]
      exact ih
    · rw [if_neg q] at s
      rw [if_pos (show (98 : Int32) ≤ nI i from nI_le (a := 98) (b := i) (by omega) (by omega))]
      simp -implicitDefEqProofs only [lt_s9, ck_1, inbT hi (by decide), clN (show i < 2147483648 by omega), ga_sa, sa_sa, s, nI_1]
      exact ih) N 0 (by omega) (by omega)
  have e : sa 7 (sdF (ga 7 μ) (ga 5 μ) 0) μ = μ := by
    have : sdF (ga 7 μ) (ga 5 μ) 0 = ga 7 μ := by
      funext j
      unfold sdF
      rw [if_neg (by omega)]
    rw [this, sa_ga]
  rw [e, nI_0] at L
  exact L
theorem m_book8 (N : Nat) (hN : 20000 ≤ N) (μ : Mz) : b12_book_8 N N 0 μ = bd (p12_readsAll N (sa 5 (flF (ga 5 μ) 0 98) μ)) (fun r2 μ2 => if r2 = 0 then some ((-2) - (gi 3 μ2), μ2) else b12_book_44 N N 0 μ2) := by
  have L := upL 98 (fun f i => b12_book_8 N f (nI i) (sa 5 (flF (ga 5 μ) 0 i) μ) = bd (p12_readsAll N (sa 5 (flF (ga 5 μ) 0 98) μ)) (fun r2 μ2 => if r2 = 0 then some ((-2) - (gi 3 μ2), μ2) else b12_book_44 N N 0 μ2)) (by
    intro f
    rw [b12_book_8, if_pos (show (98 : Int32) ≤ nI 98 from nI_le (a := 98) (b := 98) (by omega) (by omega))]) (by
    intro f i hi ih
    rw [b12_book_8, if_neg (show ¬ (98 : Int32) ≤ nI i from nI_ge (b := 98) hi (by omega))]
    simp -implicitDefEqProofs only [lt_s9, ck_1, inbT hi (by decide), clN (show i < 2147483648 by omega), ga_sa, sa_sa, flF_s, nI_1]
    exact ih) N 0 (by omega) (by omega)
  have e : sa 5 (flF (ga 5 μ) 0 0) μ = μ := by
    have : flF (ga 5 μ) 0 0 = ga 5 μ := by
      funext j
      unfold flF
      rw [if_neg (by omega)]
    rw [this, sa_ga]
  rw [e, nI_0] at L
  exact L
def IBk (k : Nat) : Prop := k = 0 ∨ k = 2 ∨ k = 3 ∨ k = 4 ∨ k = 5 ∨ k = 6 ∨ k = 8
def JBk (k : Nat) : Prop := k = 2 ∨ k = 5
theorem sm_book (N : Nat) (hN : 20000 ≤ N) (x0 : Nat) : Sm_book N x0 (Rel x0) := by
  rintro κ μ ⟨A, rfl, hR⟩
  have hs := hR.sh
  have hA := hs.inj
  obtain ⟨B, t, tC, tM, f1⟩ := tp_bytes hs hR.tp
  obtain ⟨n, κ1, e1, T1, c1⟩ := c_split N hN hs tC
  have hs1 := hs.chg c1
  have g2 : Chg A (fun r => r = 0) κ1 (sfi (A 0) 1 0 κ1) := Chg.sfi (L := fun r => r = 0) hA κ1 (r := 0) rfl _ _
  have hs2 := hs1.chg g2
  have T2 := T1.chg g2 (fun r z1 z2 z3 => by omega)
  obtain ⟨κ3, e3, r3, c3⟩ := c_clear N hN hs2
  have hs3 := hs2.chg c3
  have T3 := T2.chg c3 (fun r z1 z2 z3 => by unfold L714 at z3; omega)
  have n6 : inb (6 : Int32) 7 = true := by decide
  have c6 : (6 : Int32).toNatClampNeg = 6 := by decide
  -- the reference, begun
  have MR : ∃ μr, p12_book N μ = bd (bd (p12_clauseHere N μr) (fun r7 μ7 => b12_readsAll_35 N N r7 μ7)) (fun r2 μ2 => if r2 = 0 then some ((-2) - (gi 3 μ2), μ2) else b12_book_44 N N 0 μ2) ∧ MF IBk JBk μ μr ∧ gi 0 μr = gi 0 μ ∧ gi 2 μr = 0 ∧ gi 3 μr = 0 ∧ gi 5 μr = 6 ∧ gi 8 μr = 0 ∧ ga 5 μr = flF (ga 5 μ) 0 98 := by
    refine ⟨si 6 0 (si 3 0 (si 2 0 (si 8 0 (sa 2 (upd (ga 2 μ) 6 0) (sa 5 (flF (ga 5 μ) 0 98) (si 5 6 μ)))))), ?_, ?_, ?_, ?_, ?_, ?_, ?_, ?_⟩
    · unfold p12_book
      rw [lt_s9, m_book8 N hN]
      unfold p12_readsAll
      simp -implicitDefEqProofs only [gi_sa, gi_si, ga_si, n6, c6, ck_1, lt_s9, ga_sa_ne (show 2 ≠ 5 by decide)]
    · refine (((((MF.si (by unfold IBk; omega) _ _).trans (MF.sa (by unfold JBk; omega) _ _)).trans (MF.sa (by unfold JBk; omega) _ _)).trans (MF.si (by unfold IBk; omega) _ _)).trans (MF.si (by unfold IBk; omega) _ _)).trans ((MF.si (by unfold IBk; omega) _ _).trans (MF.si (by unfold IBk; omega) _ _))
    · rw [gi_si_ne (by decide), gi_si_ne (by decide), gi_si_ne (by decide), gi_si_ne (by decide), gi_sa, gi_sa, gi_si_ne (by decide)]
    · rw [gi_si_ne (by decide), gi_si_ne (by decide), gi_si]
    · rw [gi_si_ne (by decide), gi_si]
    · rw [gi_si_ne (by decide), gi_si_ne (by decide), gi_si_ne (by decide), gi_si_ne (by decide), gi_sa, gi_sa, gi_si]
    · rw [gi_si_ne (by decide), gi_si_ne (by decide), gi_si_ne (by decide), gi_si]
    · rw [ga_si, ga_si, ga_si, ga_si, ga_sa_ne (by decide), ga_sa]
  obtain ⟨μr, er, Mr, q0, q2, q3, q5, q8, qa⟩ := MR
  have z98 : ∀ j, j < 98 → (0 : Int32) = ga 5 μr j := fun j hj => by rw [qa]; exact (flF_at _ _ hj).symm
  have i8 : In8 (0 : Int32) := ⟨0, by omega, rfl⟩
  have hb : BC B t n 0 0 A κ3 μr := by
    refine ⟨⟨hs3, T3, ⟨tM.1, q0.trans tM.2.1, ?_⟩, q3, 0, by omega, q2, rfl⟩, r3.congr z98, ⟨0, 0, by omega, (z98 3 (by omega)).symm, by omega, (z98 2 (by omega)).symm, fun k hk => ?_, fun i hi => ?_⟩, q5, q8, Or.inl ⟨rfl, (z98 0 (by omega)).symm⟩⟩
    · rw [Mr.2.1 0 (by unfold JBk; omega)]
      exact tM.2.2
    · rw [← z98 _ (by omega), ← z98 _ (by omega)]; exact ⟨i8, i8⟩
    · rw [← z98 _ (by omega), ← z98 _ (by omega)]; exact ⟨i8, i8⟩
  obtain ⟨r, r1, κ4, μ4, e4, m4, c4, M4, q4, o4⟩ := bk_all N hN 40 0 0 N N κ3 μr (by omega) (by omega) (by omega) hb
  have hs4 := hs3.chg c4
  have e4' : b_BookReader_readBook_9 N N (A 6) 0 κ3 = some (r, κ4) := e4
  have er' : p_BookReader_readBook N (A 6) (sfi (A 0) 1 0 κ1) = some (r, κ4) := by
    unfold p_BookReader_readBook
    simp -implicitDefEqProofs only [hs2.bR, ck_1, bo_s, e3, e4']
  rw [m4, bd_s] at er
  have C4 : Chg A (fun r => r ≤ 14) κ κ4 := ((((c1.mono (fun r z => by unfold Lt5 at z; omega)).trans (g2.mono (fun r z => by omega))).trans (c3.mono (fun r z => by unfold L714 at z; omega))).trans (c4.mono (fun r z => by unfold L214 at z; omega)))
  have M04 : MF IBk JBk μ μ4 := Mr.trans (M4.mono (fun k z => by unfold IB0 at z; unfold IBk; omega) (fun k z => by unfold JB at z; unfold JBk; omega))
  have n0 : fi κ4 (A 0) 1 = 0 := by
    rw [c4.fi (by unfold L214; omega), c3.fi (by unfold L714; omega), fi_fi, if_pos ⟨rfl, rfl⟩]
  have n06 : fi κ4 (A 0) 6 = fi κ (A 0) 6 := by
    rw [c4.fi (by unfold L214; omega), c3.fi (by unfold L714; omega), fi_fi, if_neg (by simp), c1.fi (by unfold Lt5; omega)]
  have hi : ∀ k, ¬ IBk k → gi k μ4 = gi k μ := M04.1
  have hg : ∀ k, ¬ JBk k → ga k μ4 = ga k μ := M04.2.1
  have tp4 : ∀ (κ' : Cz) (μ' : Mz), fi κ' (A 0) 1 = 0 → gi 0 μ' = 0 → Tp κ' A μ' := fun κ' μ' a b => ⟨0, by omega, a, b, fun i z => absurd z (by omega)⟩
  rcases o4 with ⟨rfl, rfl, t7, rb, rq, c, h, rv⟩ | ⟨F, F0, F1, rfl, rfl, g3⟩
  · -- a book is told
    rw [if_neg ne10, m_book44 N hN] at er
    have b7 : Bk κ4 A 7 (ga 5 μ4) := ⟨t7.trans rq.1.symm, rb.1⟩
    have s11 : St κ4 A 11 (begS (ga 5 μ4)) := by
      refine ⟨rb.2.1, rb.2.2.1, rb.2.2.2.1, fun i hi => ?_, fun i hi => ?_, fun i hi => ?_⟩
      · rw [begS_13 _ hi]; exact rb.2.2.2.2.1 i hi
      · rw [begS_23 _ hi]; exact rb.2.2.2.2.2.1 i hi
      · have : begS (ga 5 μ4) (33 + i) = ga 5 μ4 (63 + i) := by
          unfold begS
          rw [if_neg (by omega), if_neg (by omega), if_neg (by omega), if_neg (by omega), if_neg (by omega), if_pos (by omega)]
          congr 1
          omega
        rw [this]; exact rb.2.2.2.2.2.2 i hi
    obtain ⟨κ5, e5, b5, s5, c5⟩ := c_copyBk N hA hs4.st21 hs4.st7 hs4.st25 hs4.st11 (by omega) b7 s11 (Or.inl rq.1)
    have hs5 := hs4.chg c5
    obtain ⟨κ6, e6, s6, c6'⟩ := c_copySt N hA hs5.st29 hs5.st11 (by omega) (s11.chg c5 (fun r z1 z2 z3 => by unfold Lr at z3; omega))
    have hs6 := hs5.chg c6'
    have c7 : Chg A (fun r => r = 33) κ6 (sfi (A 33) 0 0 κ6) := Chg.sfi (L := fun r => r = 33) hA κ6 (r := 33) rfl _ _
    have hs7 := hs6.chg c7
    have c8 : Chg A (fun r => r = 38) (sfi (A 33) 0 0 κ6) (sfi (A 38) 0 0 (sfi (A 33) 0 0 κ6)) := Chg.sfi (L := fun r => r = 38) hA _ (r := 38) rfl _ _
    have hs8 := hs7.chg c8
    have eo : p_World_open N (A 20) (A 7) κ4 = some (sfi (A 33) 0 0 κ6) := by
      unfold p_World_open
      simp -implicitDefEqProofs only [hs4.w20, hs4.bR, ck_1, bo_s, e5, hs5.w20, hs5.bR, e6, hs6.w20, lt_s9]
    have ef : p_History_forget N (A 38) (sfi (A 33) 0 0 κ6) = some (sfi (A 38) 0 0 (sfi (A 33) 0 0 κ6)) := by
      unfold p_History_forget
      simp -implicitDefEqProofs only [hs7.hi, ck_1, lt_s9]
    have B8 : Bk (sfi (A 38) 0 0 (sfi (A 33) 0 0 κ6)) A 21 (ga 5 μ4) := ((b5.chg c6' (fun r z1 z2 z3 => by unfold Ls at z3; omega)).chg c7 (fun r z1 z2 z3 => by omega)).chg c8 (fun r z1 z2 z3 => by omega)
    have f2 : fi (sfi (A 38) 0 0 (sfi (A 33) 0 0 κ6)) (A 21) 2 = ga 5 μ4 3 := B8.2.2.1
    -- said
    have o := begS_o (sdF (ga 7 μ4) (ga 5 μ4) 129)
    have sd : ∀ j, j < 98 → sdF (ga 7 μ4) (ga 5 μ4) 129 j = ga 5 μ4 j := fun j hj => by
      unfold sdF
      rw [if_pos (by omega), if_pos hj]
    have ss : ∀ j, j < 10 ∨ 43 ≤ j ∧ j < 98 → begS (sdF (ga 7 μ4) (ga 5 μ4) 129) j = ga 5 μ4 j := fun j hj => (o j (by omega)).trans (sd j (by omega))
    have s128 : begS (sdF (ga 7 μ4) (ga 5 μ4) 129) 128 = 0 := by
      rw [o 128 (by omega)]
      unfold sdF
      rw [if_pos (by omega), if_neg (by omega)]
    have bs : ∀ j, j < 98 → begS (ga 5 μ4) j = begS (sdF (ga 7 μ4) (ga 5 μ4) 129) j := fun j hj => begS_c (fun i hi => (sd i hi).symm) j hj
    have C8 : Chg A (fun r => r ≤ 14 ∨ (21 ≤ r ∧ r ≤ 36) ∨ r = 38) κ (sfi (A 38) 0 0 (sfi (A 33) 0 0 κ6)) := ((((C4.mono (fun r z => Or.inl z)).trans (c5.mono (fun r z => by unfold Lr at z; omega))).trans (c6'.mono (fun r z => by unfold Ls at z; omega))).trans (c7.mono (fun r z => by omega))).trans (c8.mono (fun r z => by omega))
    have C48 : Chg A (fun r => (21 ≤ r ∧ r ≤ 36) ∨ r = 38) κ4 (sfi (A 38) 0 0 (sfi (A 33) 0 0 κ6)) := (((c5.mono (fun r z => by unfold Lr at z; omega)).trans (c6'.mono (fun r z => by unfold Ls at z; omega))).trans (c7.mono (fun r z => by omega))).trans (c8.mono (fun r z => by omega))
    obtain ⟨q, q1, q9, qe⟩ := rq.2
    refine ⟨ga 5 μ4 3, _, _, ?_, er, A, rfl, hR.gen C8.ch (fun r z => by unfold Dc; omega) ?_ ?_ ?_ ?_ ?_ ?_ ?_ ?_ ?_ ?_ (tp4 _ _ ?_ ?_) ?_ ?_ ?_ ?_ ?_⟩
    · unfold p_ErrataRow_book
      simp -implicitDefEqProofs only [hs.top, hs.tk, ck_1, bo_s, f1, e1, hs1.top, lt_s9, hs2.top, hs2.bR, er', bd_s, hs4.top, hs4.bR, hs4.w20, eo, hs7.top, hs7.hi, ef, hs8.top, hs8.w20, f2, if_true]
    · rw [gi_si_ne (by decide), gi_sa]; exact hi 1 (by unfold IBk; omega)
    · rw [gi_si_ne (by decide), gi_sa]; exact hi 13 (by unfold IBk; omega)
    · rw [ga_si, ga_sa_ne (by decide)]; exact hg 1 (by unfold JBk; omega)
    · rw [ga_si, ga_sa_ne (by decide)]; exact hg 3 (by unfold JBk; omega)
    · rw [ga_si, ga_sa_ne (by decide)]; exact hg 4 (by unfold JBk; omega)
    · rw [ga_si, ga_sa_ne (by decide)]; exact hg 17 (by unfold JBk; omega)
    · rw [ga_si, ga_sa_ne (by decide)]; exact hg 18 (by unfold JBk; omega)
    · rw [ga_si, ga_sa_ne (by decide)]; exact hg 19 (by unfold JBk; omega)
    · rw [ga_si, ga_sa_ne (by decide)]; exact hg 20 (by unfold JBk; omega)
    · rw [C48.fi (by omega)]; exact n06
    · rw [C48.fi (by omega)]; exact n0
    · rw [gi_si_ne (by decide), gi_sa]; exact q4
    · rw [ga_si, ga_sa, gi_si_ne (by decide), gi_sa, gi_si_ne (by decide), gi_sa, hi 11 (by unfold IBk; omega), hi 12 (by unfold IBk; omega)]
      refine ⟨?_, ?_, ?_, ⟨?_, ?_⟩, ?_, ?_⟩
      · obtain ⟨x1, x2, x3, x4, x5, x6, x7⟩ := B8
        exact ⟨x1.trans (ss _ (by omega)).symm, x2.trans (ss _ (by omega)).symm, x3.trans (ss _ (by omega)).symm, x4.trans (ss _ (by omega)).symm, fun i hi => (x5 i hi).trans (ss _ (by omega)).symm, fun i hi => (x6 i hi).trans (ss _ (by omega)).symm, fun i hi => (x7 i hi).trans (ss _ (by omega)).symm⟩
      · rw [begS_sb o]
        exact (((s5.chg c6' (fun r z1 z2 z3 => by unfold Ls at z3; omega)).chg c7 (fun r z1 z2 z3 => by omega)).chg c8 (fun r z1 z2 z3 => by omega)).congr (fun j z1 z2 => bs j (by omega))
      · exact ((s6.chg c7 (fun r z1 z2 z3 => by omega)).chg c8 (fun r z1 z2 z3 => by omega)).congr (fun j z1 z2 => bs j (by omega))
      · rw [s128, fi_fi, if_neg (fun z => hA.ne (show 20 + 13 ≠ 38 by decide) z.1), fi_fi, if_pos ⟨rfl, rfl⟩]
      · intro i z1 z2
        rw [s128] at z1
        exact absurd z1 (nI_pos (by omega))
      · rw [C8.fi (by omega)]; exact hR.wd.2.2.2.2.1
      · rw [C8.fi (by omega)]; exact hR.wd.2.2.2.2.2
    · rw [ga_si, ga_sa]
      refine ⟨c, h, 0, q, 0, rv.1, (ss _ (by omega)).trans rv.2.1, rv.2.2.1, (ss _ (by omega)).trans rv.2.2.2.1, by omega, rfl, ⟨⟨0, by omega, rfl⟩, fun k hk => ⟨0, by omega, begS_23 _ hk⟩⟩, fun k hk => ?_, ⟨fun k hk => ?_, fun i hi => ?_⟩, Or.inl ⟨(ss _ (by omega)).trans rq.1, q1⟩, q9, (ss _ (by omega)).trans qe, by omega, s128, fun i z => absurd z (by omega)⟩
      · rw [begS_13 _ hk, sd _ (by omega)]; exact (rv.2.2.2.2.1 k hk).2
      · rw [ss _ (by omega), ss _ (by omega)]; exact rv.2.2.2.2.1 k hk
      · rw [ss _ (by omega), ss _ (by omega)]; exact rv.2.2.2.2.2 i hi
    · rw [gi_si_ne (by decide), gi_sa, gi_si_ne (by decide), gi_sa, hi 11 (by unfold IBk; omega), hi 1 (by unfold IBk; omega)]; exact hR.fo
    · rw [gi_si_ne (by decide), gi_sa, hi 12 (by unfold IBk; omega)]; exact hR.xx
    · obtain ⟨u, nx, u1, u2, u3, u4, u5, u6⟩ := hR.hy
      refine ⟨0, nx, by omega, u2, by rw [fi_fi, if_pos ⟨rfl, rfl⟩]; rfl, ?_, by rw [gi_si]; rfl, fun j hj => absurd hj (by omega)⟩
      rw [fi_fi, if_neg (by simp), c7.fi (by omega), c6'.fi (by unfold Ls; omega), c5.fi (by unfold Lr; omega), C4.fi (by omega)]; exact u4
  · rw [if_pos rfl, g3] at er
    refine ⟨(-2) - nI F, κ4, μ4, ?_, er, A, rfl, hR.gen C4.ch (fun r z => by unfold Dc; omega) (hi 1 (by unfold IBk; omega)) (hi 13 (by unfold IBk; omega)) (hg 1 (by unfold JBk; omega)) (hg 3 (by unfold JBk; omega)) (hg 4 (by unfold JBk; omega)) (hg 17 (by unfold JBk; omega)) (hg 18 (by unfold JBk; omega)) (hg 19 (by unfold JBk; omega)) (hg 20 (by unfold JBk; omega)) n06 (tp4 _ _ n0 q4) ?_ ?_ ?_ ?_ (hR.hy.ch C4.ch (by omega) (fun q z1 z2 => by omega) (hi 16 (by unfold IBk; omega)) (hg 8 (by unfold JBk; omega)))⟩
    · unfold p_ErrataRow_book
      simp -implicitDefEqProofs only [hs.top, hs.tk, ck_1, bo_s, f1, e1, hs1.top, lt_s9, hs2.top, hs2.bR, er', bd_s]
      rw [if_neg (nI_ne0 F0 F1)]
    · rw [hg 7 (by unfold JBk; omega), hi 11 (by unfold IBk; omega), hi 12 (by unfold IBk; omega)]
      exact hR.wd.chg C4 (fun r z1 z2 => by omega)
    · rw [hg 7 (by unfold JBk; omega)]; exact hR.ok
    · rw [hi 11 (by unfold IBk; omega), hi 1 (by unfold IBk; omega)]; exact hR.fo
    · rw [hi 12 (by unfold IBk; omega)]; exact hR.xx
