/-! acts: set, mend, hang, fill, edition, undo -/
theorem wif_1 (x y : Prop) : wif ((1 : Int32) = 0) x y = y := wif_n ne10 x y
theorem wif_T (x y : Prop) : wif True x y = x := wif_y trivial x y
theorem wif_F (x y : Prop) : wif False x y = y := wif_n (fun z => z) x y
theorem begS_b {S T : Nat → Int32} (e : Sb S T) (j : Nat) (h1 : 10 ≤ j) (h2 : j < 43) : begS T j = begS S j := by
  unfold begS
  by_cases q1 : j = 10
  · rw [if_pos q1, if_pos q1]
  · rw [if_neg q1, if_neg q1]
    by_cases q2 : j = 11
    · rw [if_pos q2, if_pos q2, e 97 (by omega)]
    · rw [if_neg q2, if_neg q2]
      by_cases q3 : j = 12
      · rw [if_pos q3, if_pos q3]
      · rw [if_neg q3, if_neg q3]
        by_cases q4 : 13 ≤ j ∧ j < 23
        · rw [if_pos q4, if_pos q4, e _ (by omega)]
        · rw [if_neg q4, if_neg q4]
          by_cases q5 : 23 ≤ j ∧ j < 33
          · rw [if_pos q5, if_pos q5]
          · rw [if_neg q5, if_neg q5, if_pos (by omega), if_pos (by omega), e _ (by omega)]
theorem OkW.now {S T : Nat → Int32} (h : OkW S) (b : Sb S T) (v : StV T) : OkW T := by
  obtain ⟨c, hh, e, q, n, a1, a2, a3, a4, a5, a6, a7, a8, a9, a10, a11, a12, a13, a14, a15⟩ := h
  obtain ⟨⟨e2, v1, v2⟩, v3, v4⟩ := v
  refine ⟨c, hh, e2, q, n, a1, (b _ (by omega)).trans a2, a3, (b _ (by omega)).trans a4, v1, v2, v3, v4, ⟨fun k hk => by rw [b _ (by omega), b _ (by omega)]; exact a9.1 k hk, fun k hk => by rw [b _ (by omega), b _ (by omega)]; exact a9.2 k hk⟩, by rw [b _ (by omega)]; exact a10, a11, (b _ (by omega)).trans a12, a13, (b _ (by omega)).trans a14, fun i hi => ?_⟩
  unfold NtV
  rw [b _ (by omega), b _ (by omega), b _ (by omega)]
  exact a15 i hi
theorem RelA.now {A : Nat → Nat} {κ κ1 : Cz} {μ μ1 : Mz} (hR : RelA A κ μ) (g : Ch A (fun r => (29 ≤ r ∧ r ≤ 32) ∨ Dc r) κ κ1) (mq : Mq μ μ1) (hS : St κ1 A 29 (ga 7 μ1)) (hb : Sb (ga 7 μ) (ga 7 μ1)) (hv : StV (ga 7 μ1)) : RelA A κ1 μ1 := by
  have i : ∀ k, ¬ (k = 10 ∨ k = 14 ∨ k = 15) → gi k μ1 = gi k μ := mq.1
  have r : ∀ k, ¬ (k = 7 ∨ (9 ≤ k ∧ k ≤ 16)) → ga k μ1 = ga k μ := mq.2
  have n : ∀ r, ¬ ((29 ≤ r ∧ r ≤ 32) ∨ (2 ≤ r ∧ r ≤ 18) ∨ (40 ≤ r ∧ r ≤ 72) ∨ (300 ≤ r ∧ r % 5 = 4)) → ¬ ((29 ≤ r ∧ r ≤ 32) ∨ Dc r) := fun r z => z
  have hw := hR.wd
  refine hR.gen g (fun r z => z.elim (fun y => Or.inr (Or.inl (by omega))) (fun y => Or.inr (Or.inr (Or.inr (Or.inr y))))) (i 1 (by omega)) (i 13 (by omega)) (r 1 (by omega)) (r 3 (by omega)) (r 4 (by omega)) (r 17 (by omega)) (r 18 (by omega)) (r 19 (by omega)) (r 20 (by omega)) (by rw [g.fi (n _ (by omega))]) (hR.tp.ch (by rw [g.fi (n _ (by omega))]) (g.ai (n _ (by omega))) (i 0 (by omega)) (r 0 (by omega))) ⟨?_, ?_, hS, ?_, ?_, ?_⟩ (hR.ok.now hb hv) ?_ ?_ (hR.hy.ch g (n _ (by omega)) (fun q z1 z2 => n _ (by omega)) (i 16 (by omega)) (r 8 (by omega)))
  · exact (hw.1.ch g (fun r z1 z2 => n _ (by omega))).congr (fun j hj => (hb j hj).symm)
  · exact (hw.2.1.ch g (fun r z1 z2 => n _ (by omega))).congr (fun j z1 z2 => (begS_b hb j z1 z2).symm)
  · obtain ⟨n1, n2⟩ := hw.2.2.2.1.ch g (fun r z1 z2 => n _ (by omega))
    refine ⟨n1.trans (hb _ (by omega)).symm, fun i hi h10 => ?_⟩
    rw [hb _ (by omega)] at hi
    rw [hb _ (by omega), hb _ (by omega), hb _ (by omega)]
    exact n2 i hi h10
  · rw [g.fi (n _ (by omega)), i 11 (by omega)]; exact hw.2.2.2.2.1
  · rw [g.fi (n _ (by omega)), i 12 (by omega)]; exact hw.2.2.2.2.2
  · rw [i 11 (by omega), i 1 (by omega)]; exact hR.fo
  · rw [i 12 (by omega)]; exact hR.xx
/-- one cell of the state that is now -/
theorem St.put {κ : Cz} {A : Nat → Nat} {b k : Nat} {S : Nat → Int32} (hA : Inj A) (h : St κ A b S) (hk : k < 10) (v : Int32) : St (sai (A (b + 1)) (upd (ai κ (A (b + 1))) k v) κ) A b (upd S (13 + k) v) := by
  have u : ∀ j, j ≠ 13 + k → upd S (13 + k) v j = S j := fun j hj => by rw [upd_at, if_neg hj]
  refine ⟨?_, ?_, ?_, ?_, ?_, ?_⟩
  · rw [fi_ai, u _ (by omega)]; exact h.1
  · rw [fi_ai, u _ (by omega)]; exact h.2.1
  · rw [fi_ai, u _ (by omega)]; exact h.2.2.1
  · intro i hi
    rw [ai_ai, if_pos rfl, upd_at, upd_at]
    by_cases q : i = k
    · rw [if_pos q, if_pos (by omega)]
    · rw [if_neg q, if_neg (by omega)]
      exact h.2.2.2.1 i hi
  · intro i hi
    rw [ai_ai, if_neg (hA.ne (by omega)), u _ (by omega)]
    exact h.2.2.2.2.1 i hi
  · intro i hi
    rw [ai_ai, if_neg (hA.ne (by omega)), u _ (by omega)]
    exact h.2.2.2.2.2 i hi
theorem St.hng {κ : Cz} {A : Nat → Nat} {b k : Nat} {S : Nat → Int32} (hA : Inj A) (h : St κ A b S) (hk : k < 10) (v : Int32) : St (sai (A (b + 3)) (upd (ai κ (A (b + 3))) k v) κ) A b (upd S (33 + k) v) := by
  have u : ∀ j, j ≠ 33 + k → upd S (33 + k) v j = S j := fun j hj => by rw [upd_at, if_neg hj]
  refine ⟨?_, ?_, ?_, ?_, ?_, ?_⟩
  · rw [fi_ai, u _ (by omega)]; exact h.1
  · rw [fi_ai, u _ (by omega)]; exact h.2.1
  · rw [fi_ai, u _ (by omega)]; exact h.2.2.1
  · intro i hi
    rw [ai_ai, if_neg (hA.ne (by omega)), u _ (by omega)]
    exact h.2.2.2.1 i hi
  · intro i hi
    rw [ai_ai, if_neg (hA.ne (by omega)), u _ (by omega)]
    exact h.2.2.2.2.1 i hi
  · intro i hi
    rw [ai_ai, if_pos rfl, upd_at, upd_at]
    by_cases q : i = k
    · rw [if_pos q, if_pos (by omega)]
    · rw [if_neg q, if_neg (by omega)]
      exact h.2.2.2.2.2 i hi
theorem St.prs {κ : Cz} {A : Nat → Nat} {b : Nat} {S : Nat → Int32} (h : St κ A b S) (v : Int32) : St (sfi (A b) 3 v κ) A b (upd S 11 v) := by
  have u : ∀ j, j ≠ 11 → upd S 11 v j = S j := fun j hj => by rw [upd_at, if_neg hj]
  refine ⟨?_, ?_, ?_, ?_, ?_, ?_⟩
  · rw [fi_fi, if_neg (by simp), u _ (by omega)]; exact h.1
  · rw [fi_fi, if_pos ⟨rfl, rfl⟩, upd_at, if_pos rfl]
  · rw [fi_fi, if_neg (by simp), u _ (by omega)]; exact h.2.2.1
  · intro i hi
    rw [ai_fi, u _ (by omega)]; exact h.2.2.2.1 i hi
  · intro i hi
    rw [ai_fi, u _ (by omega)]; exact h.2.2.2.2.1 i hi
  · intro i hi
    rw [ai_fi, u _ (by omega)]; exact h.2.2.2.2.2 i hi
theorem StV.put {S : Nat → Int32} {k : Nat} (h : StV S) (v : Int32) (hv : In8 v) : StV (upd S (13 + k) v) ∨ 10 ≤ k := by
  by_cases hk : k < 10
  · left
    obtain ⟨⟨e, h1, h2⟩, h3, h4⟩ := h
    refine ⟨⟨e, h1, by rw [upd_at, if_neg (by omega)]; exact h2⟩, ⟨by rw [upd_at, if_neg (by omega)]; exact h3.1, fun j hj => by rw [upd_at, if_neg (by omega)]; exact h3.2 j hj⟩, fun j hj => ?_⟩
    rw [upd_at]
    split
    · exact hv
    · exact h4 j hj
  · exact Or.inr (by omega)
theorem StV.hng {S : Nat → Int32} {k : Nat} (h : StV S) (v : Int32) : StV (upd S (33 + k) v) := by
  obtain ⟨⟨e, h1, h2⟩, h3, h4⟩ := h
  exact ⟨⟨e, h1, by rw [upd_at, if_neg (by omega)]; exact h2⟩, ⟨by rw [upd_at, if_neg (by omega)]; exact h3.1, fun j hj => by rw [upd_at, if_neg (by omega)]; exact h3.2 j hj⟩, fun j hj => by rw [upd_at, if_neg (by omega)]; exact h4 j hj⟩
theorem StV.prs {S : Nat → Int32} (h : StV S) (v : Int32) : StV (upd S 11 v) := by
  obtain ⟨⟨e, h1, h2⟩, h3, h4⟩ := h
  exact ⟨⟨e, h1, by rw [upd_at, if_neg (by omega)]; exact h2⟩, ⟨by rw [upd_at, if_neg (by omega)]; exact h3.1, fun j hj => by rw [upd_at, if_neg (by omega)]; exact h3.2 j hj⟩, fun j hj => by rw [upd_at, if_neg (by omega)]; exact h4 j hj⟩
theorem Sb.upd (S : Nat → Int32) {k : Nat} (v : Int32) (h : 10 ≤ k ∧ k < 43) : Sb S (upd S k v) := fun j hj => by rw [upd_at, if_neg (by omega)]
theorem RelA.stv {A : Nat → Nat} {κ : Cz} {μ : Mz} (hR : RelA A κ μ) : StV (ga 7 μ) := by
  obtain ⟨c, h, e, q, n, hO⟩ := hR.ok
  exact hO.stv
theorem RelA.putNow {A : Nat → Nat} {κ : Cz} {μ : Mz} {k v : Nat} (hR : RelA A κ μ) (hk : k < 10) (hv : v < 8) : RelA A (sai (A 30) (upd (ai κ (A 30)) k (nI v)) κ) (sa 7 (upd (ga 7 μ) (13 + k) (nI v)) μ) := by
  have hA := hR.sh.inj
  refine hR.now (Chg.sai (L := fun r => (29 ≤ r ∧ r ≤ 32) ∨ Dc r) hA κ (r := 30) (Or.inl (by omega)) _).ch (Mq.row (Or.inl rfl) _) ?_ ?_ ?_
  · rw [ga_sa]; exact St.put (b := 29) hA hR.wd.2.2.1 hk _
  · rw [ga_sa]; exact Sb.upd _ _ (by omega)
  · rw [ga_sa]
    rcases hR.stv.put (k := k) (nI v) ⟨v, hv, rfl⟩ with z | z
    · exact z
    · omega
theorem sm_set (N : Nat) (hN : 20000 ≤ N) (x0 : Nat) : Sm_set N x0 (Rel x0) := by
  rintro κ μ a1 a2 ⟨A, rfl, hR⟩
  have hs := hR.sh
  obtain ⟨c, h, e, q, nn, hO⟩ := hR.ok
  have hc10 : c ≤ 10 := hO.1
  have h3 : ga 7 μ 3 = nI c := hO.2.1
  have hl : fi κ (A 21) 2 = nI c := hR.wd.1.2.2.1.trans h3
  obtain ⟨μ1, ek, mc, hk⟩ := w_keep N hN hR
  have h7 : ga 7 μ1 = ga 7 μ := mc.2.1 7 (by unfold K8; omega)
  unfold p12_set
  simp -implicitDefEqProofs only [bd_s, bo_s, m_isInBook, m_in N a2 0 7 0 7 (by decide) (by decide), h3, ite10, lt_s9, ek, h7]
  by_cases hi : 0 ≤ a1 ∧ a1 < nI c
  · obtain ⟨k, hk1, rfl⟩ := lt_nat (by omega) hi
    have hk10 : k < 10 := by omega
    have e13 : (13 : Int32) + nI k = nI (13 + k) := nI_add 13 k
    by_cases hp : 0 ≤ a2 ∧ a2 ≤ 7
    · obtain ⟨v, hv, rfl⟩ := in_nat 7 (by omega) rfl hp
      simp -implicitDefEqProofs only [hi, hp, if_true, and_self, e13, inbT (show 13 + k < 129 by omega) (by decide), clN (show 13 + k < 2147483648 by omega), ck_1]
      by_cases hq : ga 7 μ (13 + k) = nI v
      · refine ⟨-1, μ, by rw [if_pos hq], ?_⟩
        unfold w_ErrataRow_set
        simp -implicitDefEqProofs only [hs.top, hs.w20, wck_1, wbo_s, wbd_s, c_isLetter N hs, c_isPut, hl, hi, hp, wif10, wif_1, wif_T, wif_F, if_true, and_self, inbT hk10 (by decide), clN (show k < 2147483648 by omega), hR.wd.2.2.1.2.2.2.1 k hk10, wif_y hq]
        first | exact ⟨rfl, A, rfl, hR⟩ | exact ⟨trivial, A, rfl, hR⟩
      · refine ⟨ga 7 μ (13 + k), sa 7 (upd (ga 7 μ) (13 + k) (nI v)) μ1, by rw [if_neg hq], ?_⟩
        unfold w_ErrataRow_set
        simp -implicitDefEqProofs only [hs.top, hs.w20, hs.hi, wck_1, wbo_s, wbd_s, c_isLetter N hs, c_isPut, hl, hi, hp, wif10, wif_1, wif_T, wif_F, if_true, and_self, inbT hk10 (by decide), clN (show k < 2147483648 by omega), hR.wd.2.2.1.2.2.2.1 k hk10, wif_n hq]
        refine hk (fun P κ1 p0 hR1 => ?_)
        have hs1 := hR1.sh
        have hg : ai κ1 (P 30) k = ga 7 μ (13 + k) := by
          rw [← h7]; exact hR1.wd.2.2.1.2.2.2.1 k hk10
        rw [← p0]
        simp -implicitDefEqProofs only [hs1.top, hs1.w20, wck_1, wbo_s, wlt_s, inbT hk10 (by decide), clN (show k < 2147483648 by omega)]
        refine ⟨hg, P, rfl, ?_⟩
        rw [← h7]
        exact hR1.putNow hk10 (by omega)
    · refine ⟨-1, μ, by rw [if_pos hi, if_neg hp], ?_⟩
      unfold w_ErrataRow_set
      simp -implicitDefEqProofs only [hs.top, wck_1, wbd_s, c_isLetter N hs, c_isPut, hl, hi, hp, wif10, wif_1, wif_T, wif_F, if_true, if_false, and_self]
      first | exact ⟨rfl, A, rfl, hR⟩ | exact ⟨trivial, A, rfl, hR⟩
  · refine ⟨-1, μ, by rw [if_neg hi], ?_⟩
    unfold w_ErrataRow_set
    simp -implicitDefEqProofs only [hs.top, wck_1, wbd_s, c_isLetter N hs, hl, hi, wif10, wif_1, wif_T, wif_F, if_false]
    first | exact ⟨rfl, A, rfl, hR⟩ | exact ⟨trivial, A, rfl, hR⟩
theorem sm_mend (N : Nat) (hN : 20000 ≤ N) (x0 : Nat) : Sm_mend N x0 (Rel x0) := by
  rintro κ μ a1 ⟨A, rfl, hR⟩
  have hs := hR.sh
  obtain ⟨c, h, e, q, nn, hO⟩ := hR.ok
  have hc10 : c ≤ 10 := hO.1
  have h3 : ga 7 μ 3 = nI c := hO.2.1
  have hl : fi κ (A 21) 2 = nI c := hR.wd.1.2.2.1.trans h3
  obtain ⟨μ1, ek, mc, hk⟩ := w_keep N hN hR
  have h7 : ga 7 μ1 = ga 7 μ := mc.2.1 7 (by unfold K8; omega)
  by_cases hi : 0 ≤ a1 ∧ a1 < nI c
  · obtain ⟨k, hk1, rfl⟩ := lt_nat (by omega) hi
    have hk10 : k < 10 := by omega
    have e13 : (13 : Int32) + nI k = nI (13 + k) := nI_add 13 k
    have e43 : (43 : Int32) + nI k = nI (43 + k) := nI_add 43 k
    have hbt : bt (sLoose (ga 7 μ) c) k = sLs (ga 7 μ) c k := by
      rw [sLoose, bt_bitsF _ _ hc10]
      simp [hk1]
    unfold p12_mend
    simp -implicitDefEqProofs only [m_isLoose N (by omega) μ h3 hc10 hk1, bd_s, ite10]
    by_cases hz : sLs (ga 7 μ) c k = true
    · obtain ⟨v, hv, ev⟩ := (hO.2.2.2.2.2.2.2.2.1.1 k hk10).1
      have h3b : ga 7 (sa 7 (upd (ga 7 μ) (13 + k) (nI v)) μ1) 3 = nI c := by
        rw [ga_sa, upd_at, if_neg (by omega)]; exact h3
      have hw1 := m_wrong N (by omega) (sa 7 (upd (ga 7 μ) (13 + k) (nI v)) μ1) h3b hc10
      rw [ga_sa] at hw1
      refine ⟨bcI (sWrong (upd (ga 7 μ) (13 + k) (nI v)) c), sa 7 (upd (ga 7 μ) (13 + k) (nI v)) μ1, ?_, ?_⟩
      · rw [if_pos hz, ek, bo_s]
        simp -implicitDefEqProofs only [e13, e43, lt_s9, inbT (show 13 + k < 129 by omega) (by decide), inbT (show 43 + k < 129 by omega) (by decide), clN (show 13 + k < 2147483648 by omega), clN (show 43 + k < 2147483648 by omega), ck_1, h7, ev, hw1, bd_s]
        rw [show p12_bits N (sWrong (upd (ga 7 μ) (13 + k) (nI v)) c) = some (bcI (sWrong (upd (ga 7 μ) (13 + k) (nI v)) c)) from m_bits N (by omega) _ hc10, bo_s]
      · unfold w_ErrataRow_mend
        simp -implicitDefEqProofs only [hs.top, hs.w20, hs.pr, hs.hi, wck_1, wbo_s, wbd_s, c_isLetter N hs, hl, hi, wif10, wif_1, wif_T, wif_F, if_true, and_self, c_looseOf N (by omega) hs hs.st29 hR.wd.1 hR.wd.2.2.1 h3 hc10, c_hasBit N _ (show k < 32 by omega), hbt, hz]
        refine hk (fun P κ1 p0 hR1 => ?_)
        have hs1 := hR1.sh
        have hR2 := hR1.putNow hk10 hv
        have hs2 := hR2.sh
        have hg : ai κ1 (P 22) k = nI v := by
          rw [hR1.wd.1.2.2.2.2.1 k hk10, h7]; exact ev
        have hc2 : ga 7 (sa 7 (upd (ga 7 μ1) (13 + k) (nI v)) μ1) 3 = nI c := by
          rw [ga_sa, upd_at, if_neg (by omega), h7]; exact h3
        have hw2 := c_howManyWrong N (by omega) hs2 hs2.st29 hR2.wd.1 hR2.wd.2.2.1 hc2 hc10
        rw [← p0]
        simp -implicitDefEqProofs only [hs1.top, hs1.w20, wck_1, wbo_s, wlt_s, inbT hk10 (by decide), clN (show k < 2147483648 by omega), hg]
        simp -implicitDefEqProofs only [hs2.top, hs2.w20, hs2.pr, wck_1, wbo_s, hw2, wbd_s]
        rw [ga_sa, h7]
        refine ⟨rfl, P, rfl, ?_⟩
        rw [← h7]
        exact hR2
    · refine ⟨-1, μ, by rw [if_neg hz], ?_⟩
      unfold w_ErrataRow_mend
      simp -implicitDefEqProofs only [hs.top, hs.w20, hs.pr, wck_1, wbo_s, wbd_s, c_isLetter N hs, hl, hi, wif10, wif_1, wif_T, wif_F, if_true, and_self, c_looseOf N (by omega) hs hs.st29 hR.wd.1 hR.wd.2.2.1 h3 hc10, c_hasBit N _ (show k < 32 by omega), hbt, hz, if_false]
      first | exact ⟨rfl, A, rfl, hR⟩ | exact ⟨trivial, A, rfl, hR⟩
  · refine ⟨-1, μ, ?_, ?_⟩
    · unfold p12_mend p12_isLoose
      rw [m_isInBook, h3, if_neg hi, bd_s, if_pos rfl, bd_s, if_pos rfl]
    · unfold w_ErrataRow_mend
      simp -implicitDefEqProofs only [hs.top, wck_1, wbd_s, c_isLetter N hs, hl, hi, wif10, wif_1, wif_T, wif_F, if_false]
      first | exact ⟨rfl, A, rfl, hR⟩ | exact ⟨trivial, A, rfl, hR⟩
theorem shr_bit (x : Int32) {o : Nat} (ho : o < 32) : (x >>> (nI o &&& 31)) &&& 1 = if bt x o = true then 1 else 0 := by
  have hb := b_sshr o ho x (i := 0) (by omega)
  rw [if_pos (by omega), Nat.add_zero] at hb
  by_cases h : bt x o = true
  · rw [if_pos h]
    exact (and1_1 _).mpr (hb.trans h)
  · rw [if_neg h]
    exact (and1_0 _).mpr (hb.trans (by simpa using h))
theorem sm_hang (N : Nat) (hN : 20000 ≤ N) (x0 : Nat) : Sm_hang N x0 (Rel x0) := by
  rintro κ μ a1 a2 ⟨A, rfl, hR⟩
  have hs := hR.sh
  obtain ⟨c, h, e, q, nn, hO⟩ := hR.ok
  have hc10 : c ≤ 10 := hO.1
  have h3 : ga 7 μ 3 = nI c := hO.2.1
  have hl : fi κ (A 21) 2 = nI c := hR.wd.1.2.2.1.trans h3
  obtain ⟨μ1, ek, mc, hk⟩ := w_keep N hN hR
  have h7 : ga 7 μ1 = ga 7 μ := mc.2.1 7 (by unfold K8; omega)
  unfold p12_hang
  simp -implicitDefEqProofs only [bd_s, bo_s, m_isInBook, h3, ite10, lt_s9, ek, h7]
  by_cases hi : 0 ≤ a1 ∧ a1 < nI c
  · by_cases hj : 0 ≤ a2 ∧ a2 < nI c
    · by_cases hq : a1 = a2
      · refine ⟨-1, μ, by rw [if_pos hi, if_pos hj, if_pos hq], ?_⟩
        unfold w_ErrataRow_hang
        simp -implicitDefEqProofs only [hs.top, wck_1, wbd_s, c_isLetter N hs, hl, hi, hj, wif10, wif_1, wif_T, wif_F, if_true, and_self, wif_y hq]
        first | exact ⟨rfl, A, rfl, hR⟩ | exact ⟨trivial, A, rfl, hR⟩
      · obtain ⟨k, hk1, rfl⟩ := lt_nat (by omega) hi
        obtain ⟨o, ho1, rfl⟩ := lt_nat (by omega) hj
        have hk10 : k < 10 := by omega
        have e33 : (33 : Int32) + nI k = nI (33 + k) := nI_add 33 k
        refine ⟨if bt (ga 7 μ (33 + k) ^^^ bitI o) o = true then 1 else 0, sa 7 (upd (ga 7 μ) (33 + k) (ga 7 μ (33 + k) ^^^ bitI o)) μ1, ?_, ?_⟩
        · rw [if_pos hi, if_pos hj, if_neg hq]
          simp -implicitDefEqProofs only [e33, inbT (show 33 + k < 129 by omega) (by decide), clN (show 33 + k < 2147483648 by omega), ck_1, ga_sa, upd_at, if_true]
          rw [shr_bit _ (show o < 32 by omega)]
        · unfold w_ErrataRow_hang
          simp -implicitDefEqProofs only [hs.top, hs.w20, hs.hi, wck_1, wbo_s, wbd_s, c_isLetter N hs, hl, hi, hj, wif10, wif_1, wif_T, wif_F, if_true, and_self, wif_n hq]
          refine hk (fun P κ1 p0 hR1 => ?_)
          have hs1 := hR1.sh
          have hA1 := hs1.inj
          have hg : ai κ1 (P 32) k = ga 7 μ (33 + k) := by
            rw [← h7]; exact hR1.wd.2.2.1.2.2.2.2.2 k hk10
          rw [← p0]
          simp -implicitDefEqProofs only [hs1.top, hs1.w20, wck_1, wbo_s, wlt_s, inbT hk10 (by decide), clN (show k < 2147483648 by omega), hg, isK_ai, fr_ai, ln_ai, ai_ai, if_true, upd_at, c_hasBit N _ (show o < 32 by omega), wbd_s, wif10, wif_1, wif_T, wif_F]
          have hfin : RelA P (sai (P 32) (upd (ai κ1 (P 32)) k (ga 7 μ (33 + k) ^^^ bitI o)) κ1) (sa 7 (upd (ga 7 μ1) (33 + k) (ga 7 μ (33 + k) ^^^ bitI o)) μ1) := by
            refine hR1.now (Chg.sai (L := fun r => (29 ≤ r ∧ r ≤ 32) ∨ Dc r) hA1 κ1 (r := 32) (Or.inl (by omega)) _).ch (Mq.row (Or.inl rfl) _) ?_ ?_ ?_
            · rw [ga_sa]; exact St.hng (b := 29) hA1 hR1.wd.2.2.1 hk10 _
            · rw [ga_sa]; exact Sb.upd _ _ (by omega)
            · rw [ga_sa]; exact hR1.stv.hng _
          rw [h7] at hfin
          by_cases hb : bt (ga 7 μ (33 + k) ^^^ bitI o) o = true
          · rw [if_pos hb, if_pos hb]
            exact ⟨rfl, P, rfl, hfin⟩
          · rw [if_neg hb, if_neg hb]
            exact ⟨rfl, P, rfl, hfin⟩
    · refine ⟨-1, μ, by rw [if_pos hi, if_neg hj], ?_⟩
      unfold w_ErrataRow_hang
      simp -implicitDefEqProofs only [hs.top, wck_1, wbd_s, c_isLetter N hs, hl, hi, hj, wif10, wif_1, wif_T, wif_F, if_true, if_false, and_self]
      first | exact ⟨rfl, A, rfl, hR⟩ | exact ⟨trivial, A, rfl, hR⟩
  · refine ⟨-1, μ, by rw [if_neg hi], ?_⟩
    unfold w_ErrataRow_hang
    simp -implicitDefEqProofs only [hs.top, wck_1, wbd_s, c_isLetter N hs, hl, hi, wif10, wif_1, wif_T, wif_F, if_false]
    first | exact ⟨rfl, A, rfl, hR⟩ | exact ⟨trivial, A, rfl, hR⟩
theorem sm_fill (N : Nat) (hN : 20000 ≤ N) (x0 : Nat) : Sm_fill N x0 (Rel x0) := by
  rintro κ μ a1 ⟨A, rfl, hR⟩
  have hs := hR.sh
  obtain ⟨c, h, e, q, nn, hO⟩ := hR.ok
  have h0 : fi κ (A 21) 0 = ga 7 μ 0 := hR.wd.1.1
  obtain ⟨μ1, ek, mc, hk⟩ := w_keep N hN hR
  have h7 : ga 7 μ1 = ga 7 μ := mc.2.1 7 (by unfold K8; omega)
  unfold p12_fill
  simp -implicitDefEqProofs only [bd_s, bo_s, m_isBook, m_in N a1 1 99 1 99 (by decide) (by decide), ite10, lt_s9, ek, h7, ga_sa, k11, upd_at, if_true]
  rcases told_or hO with hb | hb
  · by_cases hw : 1 ≤ a1 ∧ a1 ≤ 99
    · have ev : (if ga 7 μ 11 + a1 ≤ 999 then ga 7 μ 11 + a1 else 999) = if (999 : Int32) < ga 7 μ 11 + a1 then 999 else ga 7 μ 11 + a1 := by
        by_cases z : ga 7 μ 11 + a1 ≤ 999
        · rw [if_pos z, if_neg (Int32.not_lt.mpr z)]
        · rw [if_neg z, if_pos (Int32.not_le.mp z)]
      refine ⟨if (999 : Int32) < ga 7 μ 11 + a1 then 999 else ga 7 μ 11 + a1, sa 7 (upd (ga 7 μ) 11 (if (999 : Int32) < ga 7 μ 11 + a1 then 999 else ga 7 μ 11 + a1)) μ1, ?_, ?_⟩
      · rw [if_pos hb, if_pos hw, ← ev]
        by_cases z : ga 7 μ 11 + a1 ≤ 999
        · rw [if_pos z, if_pos z]
        · rw [if_neg z, if_neg z]
      · unfold w_ErrataRow_fill
        simp -implicitDefEqProofs only [hs.top, hs.w20, hs.hi, wck_1, wbo_s, wbd_s, h0, c_within, wif10, wif_1, wif_T, wif_F, hw, if_true, and_self]
        rw [wif_n (by rw [hb]; decide)]
        refine hk (fun P κ1 p0 hR1 => ?_)
        have hs1 := hR1.sh
        have hA1 := hs1.inj
        have hg : fi κ1 (P 29) 3 = ga 7 μ 11 := by
          rw [← h7]; exact hR1.wd.2.2.1.2.1
        rw [← p0]
        simp -implicitDefEqProofs only [hs1.top, hs1.w20, wck_1, wbo_s, wlt_s, hg, isK_fi, fr_fi, fi_fi, and_self, if_true]
        refine ⟨trivial, P, rfl, ?_⟩
        rw [← h7]
        refine hR1.now (Chg.sfi (L := fun r => (29 ≤ r ∧ r ≤ 32) ∨ Dc r) hA1 κ1 (r := 29) (Or.inl (by omega)) _ _).ch (Mq.row (Or.inl rfl) _) ?_ ?_ ?_
        · rw [ga_sa]; exact St.prs (b := 29) hR1.wd.2.2.1 _
        · rw [ga_sa]; exact Sb.upd _ _ (by omega)
        · rw [ga_sa]; exact hR1.stv.prs _
    · refine ⟨-1, μ, by rw [if_pos hb, if_neg hw], ?_⟩
      unfold w_ErrataRow_fill
      simp -implicitDefEqProofs only [hs.top, hs.w20, wck_1, wbo_s, wbd_s, h0, c_within, wif10, wif_1, wif_T, wif_F, hw, if_false]
      rw [wif_n (by rw [hb]; decide)]
      first | exact ⟨rfl, A, rfl, hR⟩ | exact ⟨trivial, A, rfl, hR⟩
  · refine ⟨-1, μ, by rw [if_neg (by rw [hb]; decide)], ?_⟩
    unfold w_ErrataRow_fill
    simp -implicitDefEqProofs only [hs.top, hs.w20, wck_1, wbo_s, h0]
    rw [wif_y hb]
    first | exact ⟨rfl, A, rfl, hR⟩ | exact ⟨trivial, A, rfl, hR⟩
theorem OkS.stv {S : Nat → Int32} {c h e : Nat} (hO : OkS S c h e) (he : e ≤ 999) : StV S := ⟨⟨e, he, hO.2.2.2.2.2.1⟩, hO.2.2.2.2.2.2.2.1, hO.2.2.2.2.2.2.2.2.1⟩
theorem sm_edition (N : Nat) (hN : 20000 ≤ N) (x0 : Nat) : Sm_edition N x0 (Rel x0) := by
  rintro κ μ ⟨A, rfl, hR⟩
  have hs := hR.sh
  obtain ⟨c, h, e, q, nn, hO⟩ := hR.ok
  have h0 : fi κ (A 21) 0 = ga 7 μ 0 := hR.wd.1.1
  have he : e ≤ 999 := hO.2.2.2.2.1
  have h10 : ga 7 μ 10 = nI e := hO.2.2.2.2.2.1
  have hg : fi κ (A 29) 5 = nI e := hR.wd.2.2.1.1.trans h10
  obtain ⟨μ1, ek, mc, hk⟩ := w_keep N hN hR
  have h7 : ga 7 μ1 = ga 7 μ := mc.2.1 7 (by unfold K8; omega)
  rcases told_or hO with hb | hb
  · by_cases h9 : e = 999
    · subst h9
      refine ⟨-1, μ, ?_, ?_⟩
      · unfold p12_edition
        simp -implicitDefEqProofs only [m_isBook, bd_s, ite10, k10, h10]
        rw [if_pos hb, if_pos (by decide)]
      · unfold w_ErrataRow_edition
        simp -implicitDefEqProofs only [hs.top, hs.w20, wck_1, wbo_s, h0, hg]
        rw [wif_n (by rw [hb]; decide), wif_n (by decide)]
        first | exact ⟨rfl, A, rfl, hR⟩ | exact ⟨trivial, A, rfl, hR⟩
    · -- both kept; the press goes on in the state that is now
      have go : ∀ P κ1, RelA P κ1 μ1 → ∃ (m : Int32) (κ2 κ3 : Cz) (μ2 : Mz), p_ErrataRow_readyPress N (P 0) (gi 11 μ1) κ1 = some κ2 ∧ Sh κ2 P ∧ p_Press_printEdition N (P 40) (P 29) κ2 = some (m, κ3) ∧ p12_passes N μ1 = some (m, μ2) ∧ RelA P κ3 μ2 ∧ (m = -1 ∨ ∃ k, k < c ∧ m = nI k) := by
        intro P κ1 hR1
        have hs1 := hR1.sh
        obtain ⟨κ2, e2, g2, f2, rf2⟩ := c_ready N hR1 hR1.fo
        have hs2 := hs1.ch g2
        have hO1 : OkS (ga 7 μ1) c h e := by rw [h7]; exact hO.oks hb
        obtain ⟨m, κ3, μ2, p1, p2, s1, o1, g3, mc3, w1, w2, w3, w4, w5, w6, w7, w8⟩ := pass_both N (by omega) (b := 29) (by unfold Hb; omega) hs2 hs2.st29 (hR1.wd.1.ch g2 (fun r z1 z2 z3 => by omega)) (hR1.wd.2.2.1.ch g2 (fun r z1 z2 z3 => by omega)) hO1 (by omega) (rf2 μ1 rfl rfl rfl rfl) (f2.trans hR1.lf.symm) (fun _ => hR1.lf)
        refine ⟨m, κ2, κ3, μ2, e2, hs2, p1, p2, hR1.now ((g2.mono (fun r z => Or.inr (by unfold Dc; omega))).trans (g3.ch.mono (fun r z => by unfold Lp at z; unfold Dc; omega))) mc3.mq s1 (fun j hj => w4 j (by omega)) (o1.stv (by omega)), w5⟩
      obtain ⟨m, μ2, p2, hm⟩ : ∃ m μ2, p12_passes N μ1 = some (m, μ2) ∧ (m = -1 ∨ ∃ k, k < c ∧ m = nI k) := by
        obtain ⟨κ2, e2, g2, f2, rf2⟩ := c_ready N hR hR.fo
        have hs2 := hs.ch g2
        have hB2 : Bk κ2 A 21 (ga 7 μ1) := by rw [h7]; exact hR.wd.1.ch g2 (fun r z1 z2 z3 => by omega)
        have hS2 : St κ2 A 29 (ga 7 μ1) := by rw [h7]; exact hR.wd.2.2.1.ch g2 (fun r z1 z2 z3 => by omega)
        have hO1 : OkS (ga 7 μ1) c h e := by rw [h7]; exact hO.oks hb
        have l13 : gi 13 μ1 = -1 := (mc.1 13 (by unfold K16; omega)).trans hR.lf
        obtain ⟨m, κ3, μ2, p1, p2, s1, o1, g3, mc3, w1, w2, w3, w4, w5, w6, w7, w8⟩ := pass_both N (by omega) (b := 29) (by unfold Hb; omega) hs2 hs2.st29 hB2 hS2 hO1 (by omega) (rf2 μ1 (mc.1 11 (by unfold K16; omega)) (mc.2.1 1 (by unfold K8; omega)) (mc.2.1 3 (by unfold K8; omega)) (mc.2.1 4 (by unfold K8; omega))) (f2.trans l13.symm) (fun _ => l13)
        exact ⟨m, μ2, p2, w5⟩
      refine ⟨if m = -1 then -2 else m, μ2, ?_, ?_⟩
      · unfold p12_edition
        simp -implicitDefEqProofs only [m_isBook, bd_s, ite10, k10, h10, ek, bo_s, p2]
        rw [if_pos hb, if_neg (show ¬ nI e = 999 from fun z => h9 ((nI_eq (b := 999) (by omega) (by omega)).mp z))]
        rcases hm with rfl | ⟨k, hk1, rfl⟩
        · rw [if_neg (by decide), if_pos rfl]
        · have hk31 : k < 2 ^ 31 := by have := hO.1; omega
          rw [if_pos (nI_pos' hk31), if_neg (fun z => by have h1 : (0 : Int32) ≤ nI k := nI_pos' hk31; rw [z] at h1; exact absurd h1 (by decide))]
      · unfold w_ErrataRow_edition
        simp -implicitDefEqProofs only [hs.top, hs.w20, hs.hi, wck_1, wbo_s, h0, hg]
        rw [wif_n (by rw [hb]; decide), wif_y (show nI e < 999 from nI_lt (b := 999) (by omega) (by omega))]
        refine hk (fun P κ1 p0 hR1 => ?_)
        have hs1 := hR1.sh
        obtain ⟨m', κ2, κ3, μ2', e2, hs2, p1, p2', hR3, -⟩ := go P κ1 hR1
        have em : (m, μ2) = (m', μ2') := Option.some.inj (p2.symm.trans p2')
        cases em
        have hf : fi κ1 (P 20) 3 = gi 11 μ1 := hR1.wd.2.2.2.2.1
        rw [← p0]
        simp -implicitDefEqProofs only [hs1.top, hs1.w20, wck_1, wbo_s, hf, e2, hs2.top, hs2.w20, hs2.pr, p1, wbd_s]
        by_cases z : m = -1
        · rw [wif_y z, if_pos z]
          exact ⟨rfl, P, rfl, hR3⟩
        · rw [wif_n z, if_neg z]
          exact ⟨rfl, P, rfl, hR3⟩
  · refine ⟨-1, μ, ?_, ?_⟩
    · unfold p12_edition
      simp -implicitDefEqProofs only [m_isBook, bd_s, ite10]
      rw [if_neg (by rw [hb]; decide)]
    · unfold w_ErrataRow_edition
      simp -implicitDefEqProofs only [hs.top, hs.w20, wck_1, wbo_s, h0]
      rw [wif_y hb]
      first | exact ⟨rfl, A, rfl, hR⟩ | exact ⟨trivial, A, rfl, hR⟩
