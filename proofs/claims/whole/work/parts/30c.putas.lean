/-! from the begin on; putAs -/
def bgP (S : Nat → Int32) (i j : Nat) : Int32 := if j = 10 then 0 else if j = 11 then S 97 else if j = 12 then 0 else if 13 ≤ j ∧ j < 13 + i then S (j + 40) else if 23 ≤ j ∧ j < 23 + i then 0 else if 33 ≤ j ∧ j < 33 + i then S (j + 30) else S j
theorem bgP_10 (S : Nat → Int32) : bgP S 10 = begS S := rfl
theorem bgP_far (S : Nat → Int32) {i j : Nat} (h : 43 ≤ j) (hi : i ≤ 10) : bgP S i j = S j := by
  unfold bgP
  rw [if_neg (by omega), if_neg (by omega), if_neg (by omega), if_neg (by omega), if_neg (by omega), if_neg (by omega)]
theorem bgP_s (S : Nat → Int32) {i : Nat} (hi : i < 10) : upd (upd (upd (bgP S i) (13 + i) (S (53 + i))) (23 + i) 0) (33 + i) (S (63 + i)) = bgP S (i + 1) := by
  funext j
  rw [upd_at, upd_at, upd_at]
  by_cases h1 : j = 33 + i
  · rw [if_pos h1]
    unfold bgP
    rw [if_neg (by omega), if_neg (by omega), if_neg (by omega), if_neg (by omega), if_neg (by omega), if_pos (by omega), show j + 30 = 63 + i by omega]
  · rw [if_neg h1]
    by_cases h2 : j = 23 + i
    · rw [if_pos h2]
      unfold bgP
      rw [if_neg (by omega), if_neg (by omega), if_neg (by omega), if_neg (by omega), if_pos (by omega)]
    · rw [if_neg h2]
      by_cases h3 : j = 13 + i
      · rw [if_pos h3]
        unfold bgP
        rw [if_neg (by omega), if_neg (by omega), if_neg (by omega), if_pos (by omega), show j + 40 = 53 + i by omega]
      · rw [if_neg h3]
        unfold bgP
        by_cases q1 : j = 10
        · rw [if_pos q1, if_pos q1]
        · rw [if_neg q1, if_neg q1]
          by_cases q2 : j = 11
          · rw [if_pos q2, if_pos q2]
          · rw [if_neg q2, if_neg q2]
            by_cases q3 : j = 12
            · rw [if_pos q3, if_pos q3]
            · rw [if_neg q3, if_neg q3]
              by_cases q4 : 13 ≤ j ∧ j < 13 + i
              · rw [if_pos q4, if_pos (show 13 ≤ j ∧ j < 13 + (i + 1) by omega)]
              · rw [if_neg q4, if_neg (show ¬ (13 ≤ j ∧ j < 13 + (i + 1)) by omega)]
                by_cases q5 : 23 ≤ j ∧ j < 23 + i
                · rw [if_pos q5, if_pos (show 23 ≤ j ∧ j < 23 + (i + 1) by omega)]
                · rw [if_neg q5, if_neg (show ¬ (23 ≤ j ∧ j < 23 + (i + 1)) by omega)]
                  by_cases q6 : 33 ≤ j ∧ j < 33 + i
                  · rw [if_pos q6, if_pos (show 33 ≤ j ∧ j < 33 + (i + 1) by omega)]
                  · rw [if_neg q6, if_neg (show ¬ (33 ≤ j ∧ j < 33 + (i + 1)) by omega)]
theorem m_begins (N : Nat) (hN : 20000 ≤ N) (μ : Mz) : p12_begins N μ = some (sa 7 (begS (ga 7 μ)) μ) := by
  have L := upL 10 (fun f i => b12_begins_32 N f (nI i) (sa 7 (bgP (ga 7 μ) i) μ) = some (sa 7 (begS (ga 7 μ)) μ)) (by
    intro f
    rw [b12_begins_32, if_pos (show (10 : Int32) ≤ nI 10 from nI_le (a := 10) (b := 10) (by omega) (by omega)), bgP_10]) (by
    intro f i hi ih
    have n10 : ¬ (10 : Int32) ≤ nI i := nI_ge (b := 10) hi (by omega)
    have e53 : (53 : Int32) + nI i = nI (53 + i) := nI_add 53 i
    have e13 : (13 : Int32) + nI i = nI (13 + i) := nI_add 13 i
    have e23 : (23 : Int32) + nI i = nI (23 + i) := nI_add 23 i
    have e63 : (63 : Int32) + nI i = nI (63 + i) := nI_add 63 i
    have e33 : (33 : Int32) + nI i = nI (33 + i) := nI_add 33 i
    have f53 : bgP (ga 7 μ) i (53 + i) = ga 7 μ (53 + i) := bgP_far _ (by omega) (by omega)
    have f63 : upd (upd (bgP (ga 7 μ) i) (13 + i) (ga 7 μ (53 + i))) (23 + i) 0 (63 + i) = ga 7 μ (63 + i) := by
      rw [upd_at, if_neg (by omega), upd_at, if_neg (by omega), bgP_far _ (by omega) (by omega)]
    rw [b12_begins_32, if_neg n10, e53, e13, e23, e63, e33]
    simp -implicitDefEqProofs only [lt_s9, ck_1, inbT (show 53 + i < 129 by omega) (by decide), clN (show 53 + i < 2147483648 by omega), inbT (show 13 + i < 129 by omega) (by decide), clN (show 13 + i < 2147483648 by omega), inbT (show 23 + i < 129 by omega) (by decide), clN (show 23 + i < 2147483648 by omega), inbT (show 63 + i < 129 by omega) (by decide), clN (show 63 + i < 2147483648 by omega), inbT (show 33 + i < 129 by omega) (by decide), clN (show 33 + i < 2147483648 by omega), ga_sa, sa_sa, nI_1, f53, f63, bgP_s _ hi]
    exact ih) N 0 (by omega) (by omega)
  have k97 : (97 : Int32).toNatClampNeg = 97 := by decide
  have k12 : (12 : Int32).toNatClampNeg = 12 := by decide
  unfold p12_begins
  simp -implicitDefEqProofs only [lt_s9, ga_sa, sa_sa, k10, k11, k12, k97]
  have e0 : upd (upd (upd (ga 7 μ) 10 0) 11 (upd (ga 7 μ) 10 0 97)) 12 0 = bgP (ga 7 μ) 0 := by
    funext j
    rw [upd_at, upd_at, upd_at, upd_at, if_neg (show ¬ 97 = 10 by decide)]
    unfold bgP
    by_cases q3 : j = 12
    · rw [if_pos q3, if_neg (by omega), if_neg (by omega), if_pos q3]
    · rw [if_neg q3]
      by_cases q2 : j = 11
      · rw [if_pos q2, if_neg (by omega), if_pos q2]
      · rw [if_neg q2]
        by_cases q1 : j = 10
        · rw [if_pos q1, if_pos q1]
        · rw [if_neg q1, if_neg q1, if_neg q2, if_neg q3, if_neg (by omega), if_neg (by omega), if_neg (by omega)]
  rw [e0]
  rw [nI_0] at L
  exact L
theorem Bk.cong3 {κ : Cz} {A : Nat → Nat} {b : Nat} {S T : Nat → Int32} (h : Bk κ A b S) (e : ∀ j, j < 10 ∨ (43 ≤ j ∧ j < 53) ∨ (73 ≤ j ∧ j < 97) → S j = T j) : Bk κ A b T := by
  obtain ⟨h1, h2, h3, h4, h5, h6, h7⟩ := h
  exact ⟨h1.trans (e _ (by omega)), h2.trans (e _ (by omega)), h3.trans (e _ (by omega)), h4.trans (e _ (by omega)), fun i hi => (h5 i hi).trans (e _ (by omega)), fun i hi => (h6 i hi).trans (e _ (by omega)), fun i hi => (h7 i hi).trans (e _ (by omega))⟩
theorem RelA.nc {A : Nat → Nat} {κ : Cz} {μ : Mz} {c h e q nn : Nat} (hR : RelA A κ μ) (hO : OkV (ga 7 μ) c h e q nn) : NC κ A (ga 7 μ) nn := by
  have h128 : ga 7 μ 128 = nI nn := hO.2.2.2.2.2.2.2.2.2.2.2.2.2.1
  have hnn : nn ≤ 10 := hO.2.2.2.2.2.2.2.2.2.2.2.2.1
  obtain ⟨n1, n2⟩ := hR.wd.2.2.2.1
  exact ⟨n1.trans h128, fun i hi => n2 i (by rw [h128]; exact nI_lt hi (by omega)) (by omega)⟩
/-- both runs over the notes -/
theorem notes_both (N : Nat) (hN : 20000 ≤ N) {A : Nat → Nat} {κ : Cz} {μ : Mz} {S : Nat → Int32} {c h e nn r : Nat} (hT : TR A κ μ c h e) (he : e ≤ 999) (hnn : nn ≤ 10) (hC : NC κ A S nn) (hV : ∀ i, i < nn → NtV S c i) (hr : r < 7) (th : Int32) (h128 : ga 7 μ 128 = nI nn) (h98 : ∀ j, 98 ≤ j → j < 128 → ga 7 μ j = S j) : ∃ (b : Bool) (κ1 : Cz) (μ1 : Mz), (b = true ↔ ∀ n, n ≤ 60 → soK S A nn n (Kit N A (n + 1) κ)) ∧ p_ErrataRow_areNotesSo N (A 0) κ = some (if b = true then 1 else 0, κ1) ∧ p12_areAllSo N (nI r) th μ = some (if b = true then 1 else 0, μ1) ∧ Chg A (Lp 66) κ κ1 ∧ Mq μ μ1 ∧ Sb (ga 7 μ) (ga 7 μ1) ∧ ga 9 μ1 = ga 9 μ ∧ ga 15 μ1 = ga 15 μ ∧ (∀ j, (∀ k, k < c → j ≠ 10 * r + k) → ga 16 μ1 j = ga 16 μ j) ∧ ∀ t, nI t = th → t ≤ 60 → ∀ k, k < c → ga 16 μ1 (10 * r + k) = ai (Kit N A (t + 1) κ) (A 67) k := by
  obtain ⟨b, κ1, b1, b2, b3⟩ := c_areNotesSo N hN hT he hnn hC hV
  obtain ⟨b', μ1, q1, q2, q3, q4, q5, q6, q7, q8, q9⟩ := m_areAllSo N hN (A := A) (S := S) (c := c) (h := h) (e := e) (nn := nn) (r := r) he hnn hV hr th N 0 (by omega) (by omega) κ μ true hT h128 h98
  have eb : b' = b := by
    have h1 : b' = true ↔ b = true := q1.trans ⟨fun z => b1.mpr (fun n hn => z.2 n (by omega) hn), fun z => ⟨rfl, fun n _ hn => b1.mp z n hn⟩⟩
    cases b <;> cases b' <;> simp_all
  subst eb
  rw [nI_0, if_pos (show true = true from rfl)] at q2
  exact ⟨b', κ1, μ1, b1, b2, q2, b3, q3, q4, q5, q6, q7, fun t ht h1 k hk => q9 t ht (by omega) h1 k hk⟩
theorem sm_putAs (N : Nat) (hN : 20000 ≤ N) (x0 : Nat) : Sm_putAs N x0 (Rel x0) := by
  rintro κ μ a1 ⟨A, rfl, hR⟩
  have hs := hR.sh
  obtain ⟨c, h, e, q, nn, hO⟩ := hR.ok
  have hc10 : c ≤ 10 := hO.1
  have h3 : ga 7 μ 3 = nI c := hO.2.1
  have hl : fi κ (A 21) 2 = nI c := hR.wd.1.2.2.1.trans h3
  unfold p_ErrataRow_putAs p12_putAs
  simp -implicitDefEqProofs only [hs.top, ck_1, bd_s, c_isLetter N hs, m_isInBook, hl, h3, ite10, lt_s9]
  by_cases hi : 0 ≤ a1 ∧ a1 < nI c
  · rw [if_pos hi, if_pos hi]
    obtain ⟨k, hk, rfl⟩ := lt_nat (by omega) hi
    have hk10 : k < 10 := by omega
    have hb := hO.told hk
    have hOS := hO.oks hb
    have h128 : ga 7 μ 128 = nI nn := hO.2.2.2.2.2.2.2.2.2.2.2.2.2.1
    have hnn : nn ≤ 10 := hO.2.2.2.2.2.2.2.2.2.2.2.2.1
    have hV : ∀ i, i < nn → NtV (ga 7 μ) c i := hO.2.2.2.2.2.2.2.2.2.2.2.2.2.2
    have hNC := hR.nc hO
    have e53 : (53 : Int32) + nI k = nI (53 + k) := nI_add 53 k
    rw [e53, inbT (show 53 + k < 129 by omega) (by decide), ck_1, clN (show 53 + k < 2147483648 by omega), m_keeps N (by omega) μ, bo_s]
    have L := upL 8 (fun f i => ∀ (κ1 : Cz) (μ1 : Mz) (x : Int32), Ch A Dc κ κ1 → Mq μ μ1 → Kp μ1 (ga 7 μ) → (∀ j, (j < 10 ∨ 43 ≤ j) → j ≠ 53 + k → ga 7 μ1 j = ga 7 μ j) → ∃ (r : Int32) (κ' : Cz) (μ' : Mz), b_ErrataRow_putAs_14 N f (A 0) (nI k) x (nI i) κ1 = some (r, κ') ∧ b12_putAs_29 N f (nI k) (ga 7 μ (53 + k)) x (nI i) μ1 = some (r, μ') ∧ RelA A κ' μ') (by
      intro f κ1 μ1 x g1 m1 hK hJ
      have n8 : (8 : Int32) ≤ nI 8 := nI_le (a := 8) (b := 8) (by omega) (by omega)
      have m2 : Mq μ (sa 7 (upd (ga 7 μ1) (53 + k) (ga 7 μ (53 + k))) μ1) := m1.trans (Mq.row (Or.inl rfl) _)
      have elb := m_back N (by omega) (μ := sa 7 (upd (ga 7 μ1) (53 + k) (ga 7 μ (53 + k))) μ1) (S := ga 7 μ) (hK.mq (ga_sa_ne (by decide) _ _)) (by
        rw [ga_sa]
        intro j hj
        rw [upd_at]
        by_cases z : j = 53 + k
        · rw [if_pos z, z]
        · rw [if_neg z]; exact hJ j hj z)
      rw [b_ErrataRow_putAs_14, b12_putAs_29, if_pos n8, if_pos n8, e53, inbT (show 53 + k < 129 by omega) (by decide), ck_1, clN (show 53 + k < 2147483648 by omega), lt_s9, elb, bo_s]
      exact ⟨x, κ1, _, rfl, rfl, q_close hR g1 (m2.trans (Mq.row (Or.inl rfl) _)) (ga_sa _ _ _)⟩) (by
      intro f i hi8 ih κ1 μ1 x g1 m1 hK hJ
      have n8 : ¬ (8 : Int32) ≤ nI i := nI_ge (b := 8) hi8 (by omega)
      have hR1 : RelA A κ1 μ := hR.ch g1 (QM.refl μ)
      have hs1 := hR1.sh
      have hA := hs1.inj
      obtain ⟨κ2, p1, g2, s2, f2, rf2⟩ := c_start N hR1 (Or.inr rfl) hR1.wd.2.1
      have hs2 := hs1.ch g2
      have g3 : Chg A (fun r => r = 67) κ2 (sai (A 67) (upd (ai κ2 (A 67)) k (nI i)) κ2) := Chg.sai (L := fun r => r = 67) hA κ2 (r := 67) rfl _
      have hs3 := hs2.chg g3
      -- the reference's said
      have hT0 : ∀ j, 10 ≤ j → j < 43 → upd (begS (ga 7 μ)) (13 + k) (nI i) j = begS (upd (ga 7 μ1) (53 + k) (nI i)) j := by
        intro j j1 j2
        rw [upd_at]
        unfold begS
        by_cases q1 : j = 10
        · rw [if_neg (by omega), if_pos q1, if_pos q1]
        · rw [if_neg q1, if_neg q1]
          by_cases q2 : j = 11
          · rw [if_neg (by omega), if_pos q2, if_pos q2, upd_at, if_neg (by omega), hJ 97 (by omega) (by omega)]
          · rw [if_neg q2, if_neg q2]
            by_cases q3 : j = 12
            · rw [if_neg (by omega), if_pos q3, if_pos q3]
            · rw [if_neg q3, if_neg q3]
              by_cases q4 : 13 ≤ j ∧ j < 23
              · rw [if_pos q4, if_pos q4, upd_at]
                by_cases z : j = 13 + k
                · rw [if_pos z, if_pos (by omega)]
                · rw [if_neg z, if_neg (by omega), hJ _ (by omega) (by omega)]
              · rw [if_neg q4, if_neg q4, if_neg (by omega)]
                by_cases q5 : 23 ≤ j ∧ j < 33
                · rw [if_pos q5, if_pos q5]
                · rw [if_neg q5, if_neg q5, if_pos (by omega), if_pos (by omega), upd_at, if_neg (by omega), hJ _ (by omega) (by omega)]
      have hTo : ∀ j, (j < 10 ∨ 43 ≤ j) → j ≠ 53 + k → begS (upd (ga 7 μ1) (53 + k) (nI i)) j = ga 7 μ j := by
        intro j hj hne
        rw [begS_o _ j hj, upd_at, if_neg hne]
        exact hJ j hj hne
      have hOT : OkS (begS (upd (ga 7 μ1) (53 + k) (nI i))) c h 0 := by
        obtain ⟨o0, o3, oc, o2, o12, o10, _, o9, op, ov⟩ := hOS.beg
        have b0 := begS_o (ga 7 μ)
        refine ⟨(hTo 0 (by omega) (by omega)).trans hb, (hTo 3 (by omega) (by omega)).trans h3, oc, (hTo 2 (by omega) (by omega)).trans hOS.2.2.2.1, o12, rfl, by omega, ⟨⟨0, by omega, rfl⟩, fun j hj => ⟨0, by omega, begS_23 _ hj⟩⟩, fun j hj => ?_, fun j hj => ⟨?_, ?_⟩, fun j hj => ?_⟩
        · rw [← hT0 _ (by omega) (by omega), upd_at]
          split
          · exact ⟨i, hi8, rfl⟩
          · exact op j hj
        · rw [hTo _ (by omega) (by omega)]; exact (hOS.2.2.2.2.2.2.2.2.2.1 j hj).1
        · rw [begS_o _ _ (by omega), upd_at]
          split
          · exact ⟨i, hi8, rfl⟩
          · rename_i z
            rw [hJ _ (by omega) z]
            exact (hOS.2.2.2.2.2.2.2.2.2.1 j hj).2
        · rw [hTo _ (by omega) (by omega), hTo _ (by omega) (by omega)]; exact hOS.2.2.2.2.2.2.2.2.2.2 j hj
      have m2 : Mq μ (sa 7 (begS (upd (ga 7 μ1) (53 + k) (nI i))) μ1) := m1.trans (Mq.row (Or.inl rfl) _)
      have hT : TR A (sai (A 67) (upd (ai κ2 (A 67)) k (nI i)) κ2) (sa 7 (begS (upd (ga 7 μ1) (53 + k) (nI i))) μ1) c h 0 := by
        refine ⟨hs3, ?_, ?_, by rw [ga_sa]; exact hOT, ?_, ?_, fun _ => by rw [m2.i13]; exact hR.lf⟩
        · rw [ga_sa]
          exact ((hR1.wd.1.ch g2 (fun r z1 z2 z3 => by unfold Ds at z3; omega)).chg g3 (fun r z1 z2 z3 => by omega)).cong3 (fun j hj => (hTo j (by omega) (by omega)).symm)
        · rw [ga_sa]
          exact (St.put (b := 66) hA s2 hk10 (nI i)).congr hT0
        · exact (rf2 _ m2.i11 m2.a1 m2.a3 m2.a4).chg g3 (fun r z1 z2 z3 => by omega) rfl rfl rfl rfl
        · rw [g3.fi (by omega), f2, m2.i13, hR.lf]
      have hNC3 : NC (sai (A 67) (upd (ai κ2 (A 67)) k (nI i)) κ2) A (ga 7 μ) nn := ((hNC.ch g1 (fun r z1 z2 z3 => by unfold Dc at z3; omega)).ch g2 (fun r z1 z2 z3 => by unfold Ds at z3; omega)).chg g3 (fun r z1 z2 z3 => by omega)
      obtain ⟨b, κ4, μ4, b1, b2, b3, g4, m4, sb4, h9, -, -, -⟩ := notes_both N hN (r := 0) hT (by omega) hnn hNC3 hV (by omega) (-1) (by rw [ga_sa, hTo _ (by omega) (by omega)]; exact h128) (fun j z1 z2 => by rw [ga_sa, hTo _ (by omega) (by omega)])
      have e7 : upd (ga 7 μ1) (53 + k) (nI i) = ga 7 (sa 7 (upd (ga 7 μ1) (53 + k) (nI i)) μ1) := (ga_sa _ _ _).symm
      have ebg := m_begins N hN (sa 7 (upd (ga 7 μ1) (53 + k) (nI i)) μ1)
      rw [ga_sa, sa_sa] at ebg
      have b3' : p12_areAllSo N 0 (-1) (sa 7 (begS (upd (ga 7 μ1) (53 + k) (nI i))) μ1) = some (if b = true then 1 else 0, μ4) := b3
      rw [b_ErrataRow_putAs_14, b12_putAs_29, if_neg n8, if_neg n8, e53, inbT (show 53 + k < 129 by omega) (by decide), ck_1, clN (show 53 + k < 2147483648 by omega), lt_s9, ebg, bo_s, b3', bd_s, ite10]
      simp -implicitDefEqProofs only [hs1.top, hs1.w20, ck_1, bo_s, p1, hs2.top, hs2.tr, inbT hk10 (by decide), clN (show k < 2147483648 by omega), lt_s9, b2, bd_s, ite10, nI_1]
      have gg : Ch A Dc κ κ4 := ((g1.trans (g2.mono Ds_Dc)).trans (g3.ch.mono (fun r z => by unfold Dc; omega))).trans (g4.ch.mono Dc_Lp)
      have hK4 : Kp μ4 (ga 7 μ) := (hK.mq (ga_sa_ne (show 9 ≠ 7 by decide) (begS (upd (ga 7 μ1) (53 + k) (nI i))) μ1)).mq h9
      have hJ4 : ∀ j, (j < 10 ∨ 43 ≤ j) → j ≠ 53 + k → ga 7 μ4 j = ga 7 μ j := fun j hj hne => by rw [sb4 j hj, ga_sa]; exact hTo j hj hne
      by_cases hbb : b = true
      · rw [if_pos hbb, if_pos hbb]
        exact ih κ4 μ4 _ gg (m2.trans m4) hK4 hJ4
      · rw [if_neg hbb, if_neg hbb]
        exact ih κ4 μ4 _ gg (m2.trans m4) hK4 hJ4) N 0 (by omega) (by omega) κ (sa 9 (kpF (ga 7 μ) (ga 9 μ) 33) μ) 0 (Ch.refl _ _ _) (Mq.row (by unfold Rq; omega) _) (by
        intro k2 hk2
        rw [ga_sa]
        exact if_pos hk2) (fun j _ _ => by rw [ga_sa_ne (by decide)])
    rw [nI_0] at L
    obtain ⟨r, κ', μ', q1, q2, q3⟩ := L
    exact ⟨r, κ', μ', q1, q2, A, rfl, q3⟩
  · rw [if_neg hi, if_neg hi]
    exact ⟨-1, κ, μ, rfl, rfl, A, rfl, hR⟩
