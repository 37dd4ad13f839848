/-! letter, habit, note, count -/
theorem sw_out {a : Int32} {n : Nat} (hn : n < 2 ^ 30) (h : ¬ (a.toInt < 0 ∨ (n : Int) < a.toInt)) : ∃ k, k ≤ n ∧ a = nI k := by
  obtain ⟨j, hj, rfl⟩ := nI_of (x := a) (fun z => h (Or.inl (by have := Int32.lt_iff_toInt_lt.mp z; simpa using this)))
  rw [nI_toInt hj] at h
  exact ⟨j, by omega, rfl⟩
theorem sm_letter (N : Nat) (x0 : Nat) : Sm_letter N x0 (Rel x0) := by
  rintro κ μ a1 a2 ⟨A, rfl, hR⟩
  have hs := hR.sh
  obtain ⟨c, h, e, q, nn, hO⟩ := hR.ok
  have h3 : ga 7 μ 3 = nI c := hO.2.1
  have hc10 : c ≤ 10 := hO.1
  have hl : fi κ (A 21) 2 = nI c := hR.wd.1.2.2.1.trans h3
  unfold p_ErrataRow_letter p12_letter
  simp -implicitDefEqProofs only [hs.top, hs.w20, ck_1, bo_s, bd_s, c_isLetter N hs, m_isInBook, hl, h3, ite10, lt_s9]
  by_cases hi : 0 ≤ a1 ∧ a1 < nI c
  · rw [if_pos hi, if_pos hi]
    obtain ⟨k, hk, rfl⟩ := lt_nat (by omega) hi
    have hk10 : k < 10 := by omega
    have e13 : (13 : Int32) + nI k = nI (13 + k) := nI_add 13 k
    have e43 : (43 : Int32) + nI k = nI (43 + k) := nI_add 43 k
    have e23 : (23 : Int32) + nI k = nI (23 + k) := nI_add 23 k
    have e33 : (33 : Int32) + nI k = nI (33 + k) := nI_add 33 k
    simp -implicitDefEqProofs only [e13, e23, e33, e43, inbT hk10 (by decide), inbT (show 13 + k < 129 by omega) (by decide), inbT (show 23 + k < 129 by omega) (by decide), inbT (show 33 + k < 129 by omega) (by decide), inbT (show 43 + k < 129 by omega) (by decide), clN (show k < 2147483648 by omega), clN (show 13 + k < 2147483648 by omega), clN (show 23 + k < 2147483648 by omega), clN (show 33 + k < 2147483648 by omega), clN (show 43 + k < 2147483648 by omega), ck_1, hR.wd.2.2.1.2.2.2.1 k hk10, hR.wd.2.2.1.2.2.2.2.1 k hk10, hR.wd.2.2.1.2.2.2.2.2 k hk10, hR.wd.1.2.2.2.2.1 k hk10]
    by_cases ho : a2.toInt < 0 ∨ 3 < a2.toInt
    · rw [if_pos ho, if_pos ho]
      exact ⟨-1, κ, μ, rfl, rfl, A, rfl, hR⟩
    · rw [if_neg ho, if_neg ho]
      obtain ⟨w, hw, rfl⟩ := sw_out (n := 3) (by omega) ho
      match w, hw with
      | 0, _ => exact ⟨_, κ, μ, by rw [if_pos (by decide)], by rw [if_pos (by decide)], A, rfl, hR⟩
      | 1, _ => exact ⟨_, κ, μ, by rw [if_neg (by decide), if_pos (by decide)], by rw [if_neg (by decide), if_pos (by decide)], A, rfl, hR⟩
      | 2, _ => exact ⟨_, κ, μ, by rw [if_neg (by decide), if_neg (by decide), if_pos (by decide)], by rw [if_neg (by decide), if_neg (by decide), if_pos (by decide)], A, rfl, hR⟩
      | 3, _ => exact ⟨_, κ, μ, by rw [if_neg (by decide), if_neg (by decide), if_neg (by decide), if_pos (by decide)], by rw [if_neg (by decide), if_neg (by decide), if_neg (by decide), if_pos (by decide)], A, rfl, hR⟩
  · rw [if_neg hi, if_neg hi]
    exact ⟨-1, κ, μ, rfl, rfl, A, rfl, hR⟩
theorem c_round (N : Nat) {A : Nat → Nat} {κ : Cz} {h : Nat} (hs : Sh κ A) (h12 : h ≤ 12) (hh : fi κ (A 21) 3 = nI h) : p_Book_editionsRound N (A 21) κ = some (nI (sRd h), κ) := by
  unfold p_Book_editionsRound
  simp -implicitDefEqProofs only [hs.w20, ck_1, hh, lt_s9]
  unfold sRd
  by_cases z : h = 0
  · subst z; rfl
  · rw [if_neg z]
    have : ¬ nI h < 1 := nI_nlt (b := 1) (by omega) (by omega)
    rw [if_neg this]
theorem sRd_b {h : Nat} (h12 : h ≤ 12) : 1 ≤ sRd h ∧ sRd h ≤ 12 := by
  unfold sRd
  split <;> omega
theorem sm_habit (N : Nat) (x0 : Nat) : Sm_habit N x0 (Rel x0) := by
  rintro κ μ a1 a2 ⟨A, rfl, hR⟩
  have hs := hR.sh
  obtain ⟨c, h, e, q, nn, hO⟩ := hR.ok
  have h12 : h ≤ 12 := hO.2.2.1
  have h2 : ga 7 μ 2 = nI h := hO.2.2.2.1
  have hh : fi κ (A 21) 3 = nI h := hR.wd.1.2.2.2.1.trans h2
  have h0 : fi κ (A 21) 0 = ga 7 μ 0 := hR.wd.1.1
  have hr := sRd_b h12
  unfold p_ErrataRow_habit p12_habit
  simp -implicitDefEqProofs only [hs.top, hs.w20, ck_1, bo_s, bd_s, c_round N hs h12 hh, c_within, m_in N a2 0 1 0 1 (by decide) (by decide), h0, ite10, lt_s9]
  rcases told_or hO with hb | hb
  · simp only [hb, ne10, if_false, m_rounds N μ hb h2 h12, bd_s]
    have e1 : nI (sRd h) - 1 = nI (sRd h - 1) := by
      obtain ⟨m, hm⟩ : ∃ m, sRd h = m + 1 := ⟨sRd h - 1, by omega⟩
      rw [hm, sub1]
      rfl
    rw [e1]
    by_cases ha : a1 < 0
    · rw [if_pos ha, if_neg (fun z => Int32.not_le.mpr ha z.1)]
      exact ⟨-1, κ, μ, rfl, rfl, A, rfl, hR⟩
    · rw [if_neg ha]
      obtain ⟨j, hj, rfl⟩ := nI_of ha
      by_cases hjr : sRd h ≤ j
      · rw [if_pos (nI_le hjr hj), if_neg (fun z => absurd ((nI_leI hj (by omega)).mp z.2) (by omega))]
        exact ⟨-1, κ, μ, rfl, rfl, A, rfl, hR⟩
      · rw [if_neg (nI_ge (by omega) (by omega)), if_pos ⟨nI_pos' hj, nI_le (by omega) (by omega)⟩]
        have hj12 : j < 12 := by omega
        by_cases hw : 0 ≤ a2 ∧ a2 ≤ 1
        · rw [if_pos hw, if_pos hw]
          have em : (73 : Int32) + 2 * nI j = nI (73 + 2 * j) := by
            rw [show (2 : Int32) = nI 2 from rfl, pk_mul, show (73 : Int32) = nI 73 from rfl, nI_add]
          obtain ⟨w, hw1, rfl⟩ := in_nat 1 (by omega) rfl hw
          rw [em, nI_add, inbT (show 73 + 2 * j + w < 129 by omega) (by decide), inbT hj12 (by decide), ck_1, ck_1, ck_1, clN (show j < 2147483648 by omega), clN (show 73 + 2 * j + w < 2147483648 by omega)]
          match w, hw1 with
          | 0, _ => exact ⟨_, κ, μ, by rw [if_pos (by decide)], by rw [hR.wd.1.2.2.2.2.2.1 j hj12]; rfl, A, rfl, hR⟩
          | 1, _ => exact ⟨_, κ, μ, by rw [if_neg (by decide)], by rw [hR.wd.1.2.2.2.2.2.2 j hj12], A, rfl, hR⟩
        · rw [if_neg hw, if_neg hw]
          exact ⟨-1, κ, μ, rfl, rfl, A, rfl, hR⟩
  · have er : p12_rounds N μ = some (0, μ) := by
      unfold p12_rounds
      rw [m_isBook, if_neg (by rw [hb]; decide), bd_s, if_pos rfl]
    simp only [hb, if_true, er, bd_s]
    by_cases ha : a1 < 0
    · rw [if_pos ha]
      exact ⟨-1, κ, μ, rfl, rfl, A, rfl, hR⟩
    · rw [if_neg ha, if_pos (Int32.not_lt.mp ha)]
      exact ⟨-1, κ, μ, rfl, rfl, A, rfl, hR⟩
theorem sm_count (N : Nat) (hN : 20000 ≤ N) (x0 : Nat) : Sm_count N x0 (Rel x0) := by
  rintro κ μ a1 ⟨A, rfl, hR⟩
  have hs := hR.sh
  obtain ⟨c, h, e, q, nn, hO⟩ := hR.ok
  have h12 : h ≤ 12 := hO.2.2.1
  have hc10 : c ≤ 10 := hO.1
  have h3 : ga 7 μ 3 = nI c := hO.2.1
  have h2 : ga 7 μ 2 = nI h := hO.2.2.2.1
  have hh : fi κ (A 21) 3 = nI h := hR.wd.1.2.2.2.1.trans h2
  have h0 : fi κ (A 21) 0 = ga 7 μ 0 := hR.wd.1.1
  have hw := hR.wd
  obtain ⟨R, r1, r2, r3, r4⟩ := hR.rl
  obtain ⟨t, t1, t2, t3, t4⟩ := hR.tp
  obtain ⟨u, nx, u1, u2, u3, u4, u5, u6⟩ := hR.hy
  have er : (if ga 7 μ 0 = 0 then some (0, κ) else some (nI (sRd h), κ)) = some (if ga 7 μ 0 = 0 then 0 else nI (sRd h), κ) := by split <;> rfl
  have er2 : p12_rounds N μ = some (if ga 7 μ 0 = 0 then 0 else nI (sRd h), μ) := by
    rcases told_or hO with hb | hb
    · rw [m_rounds N μ hb h2 h12, hb, if_neg (by decide)]
    · unfold p12_rounds
      rw [m_isBook, if_neg (by rw [hb]; decide), bd_s, if_pos rfl, if_pos hb]
  have kk1 : ga 7 μ (1 : Int32).toNatClampNeg = ga 7 μ 1 := rfl
  have kk3 : ga 7 μ (3 : Int32).toNatClampNeg = ga 7 μ 3 := rfl
  have kk10 : ga 7 μ (10 : Int32).toNatClampNeg = ga 7 μ 10 := rfl
  have kk11 : ga 7 μ (11 : Int32).toNatClampNeg = ga 7 μ 11 := rfl
  have kk12 : ga 7 μ (12 : Int32).toNatClampNeg = ga 7 μ 12 := rfl
  have kk128 : ga 7 μ (128 : Int32).toNatClampNeg = ga 7 μ 128 := rfl
  unfold p_ErrataRow_count p12_count
  simp -implicitDefEqProofs only [hs.top, hs.w20, hs.pr, hs.hi, ck_1, bo_s, bd_s, c_round N hs h12 hh, h0, er, er2, c_wrongOf N (by omega) hs hs.st29 hw.1 hw.2.2.1 h3 hc10, m_wrong N (by omega) μ h3 hc10, c_looseOf N (by omega) hs hs.st29 hw.1 hw.2.2.1 h3 hc10, m_loose N (by omega) μ h3 hc10, hw.1.2.1, hw.1.2.2.1, r2, r3, hw.2.2.2.2.1, hw.2.2.2.2.2, hw.2.2.1.1, hw.2.2.1.2.1, hw.2.2.1.2.2.1, hw.2.2.2.1.1, u3, u5, t2, t3, kk1, kk3, kk10, kk11, kk12, kk128]
  by_cases ho : a1.toInt < 0 ∨ 13 < a1.toInt
  · rw [if_pos ho, if_pos ho]
    exact ⟨-1, κ, μ, rfl, rfl, A, rfl, hR⟩
  · rw [if_neg ho, if_neg ho]
    obtain ⟨w, hw1, rfl⟩ := sw_out (n := 13) (by omega) ho
    match w, hw1 with
    | 0, _ => exact ⟨_, κ, μ, by rw [if_pos (by decide)], by rw [if_pos (by decide)], A, rfl, hR⟩
    | 1, _ => exact ⟨_, κ, μ, by rw [if_neg (by decide), if_pos (by decide)], by rw [if_neg (by decide), if_pos (by decide)], A, rfl, hR⟩
    | 2, _ => exact ⟨_, κ, μ, by rw [if_neg (by decide), if_neg (by decide), if_pos (by decide)], by rw [if_neg (by decide), if_neg (by decide), if_pos (by decide)], A, rfl, hR⟩
    | 3, _ => exact ⟨_, κ, μ, by rw [if_neg (by decide), if_neg (by decide), if_neg (by decide), if_pos (by decide)], by rw [if_neg (by decide), if_neg (by decide), if_neg (by decide), if_pos (by decide)], A, rfl, hR⟩
    | 4, _ => exact ⟨_, κ, μ, by rw [if_neg (by decide), if_neg (by decide), if_neg (by decide), if_neg (by decide), if_pos (by decide)], by rw [if_neg (by decide), if_neg (by decide), if_neg (by decide), if_neg (by decide), if_pos (by decide)], A, rfl, hR⟩
    | 5, _ => exact ⟨_, κ, μ, by rw [if_neg (by decide), if_neg (by decide), if_neg (by decide), if_neg (by decide), if_neg (by decide), if_pos (by decide)], by rw [if_neg (by decide), if_neg (by decide), if_neg (by decide), if_neg (by decide), if_neg (by decide), if_pos (by decide)], A, rfl, hR⟩
    | 6, _ => exact ⟨_, κ, μ, by rw [if_neg (by decide), if_neg (by decide), if_neg (by decide), if_neg (by decide), if_neg (by decide), if_neg (by decide), if_pos (by decide)], by rw [if_neg (by decide), if_neg (by decide), if_neg (by decide), if_neg (by decide), if_neg (by decide), if_neg (by decide), if_pos (by decide)], A, rfl, hR⟩
    | 7, _ => exact ⟨_, κ, μ, by rw [if_neg (by decide), if_neg (by decide), if_neg (by decide), if_neg (by decide), if_neg (by decide), if_neg (by decide), if_neg (by decide), if_pos (by decide)], by rw [if_neg (by decide), if_neg (by decide), if_neg (by decide), if_neg (by decide), if_neg (by decide), if_neg (by decide), if_neg (by decide), if_pos (by decide)], A, rfl, hR⟩
    | 8, _ => exact ⟨_, κ, μ, by rw [if_neg (by decide), if_neg (by decide), if_neg (by decide), if_neg (by decide), if_neg (by decide), if_neg (by decide), if_neg (by decide), if_neg (by decide), if_pos (by decide)], by rw [if_neg (by decide), if_neg (by decide), if_neg (by decide), if_neg (by decide), if_neg (by decide), if_neg (by decide), if_neg (by decide), if_neg (by decide), if_pos (by decide)], A, rfl, hR⟩
    | 9, _ => exact ⟨_, κ, μ, by rw [if_neg (by decide), if_neg (by decide), if_neg (by decide), if_neg (by decide), if_neg (by decide), if_neg (by decide), if_neg (by decide), if_neg (by decide), if_neg (by decide), if_pos (by decide)], by rw [if_neg (by decide), if_neg (by decide), if_neg (by decide), if_neg (by decide), if_neg (by decide), if_neg (by decide), if_neg (by decide), if_neg (by decide), if_neg (by decide), if_pos (by decide)], A, rfl, hR⟩
    | 10, _ => exact ⟨_, κ, μ, by rw [if_neg (by decide), if_neg (by decide), if_neg (by decide), if_neg (by decide), if_neg (by decide), if_neg (by decide), if_neg (by decide), if_neg (by decide), if_neg (by decide), if_neg (by decide), if_pos (by decide)], by rw [if_neg (by decide), if_neg (by decide), if_neg (by decide), if_neg (by decide), if_neg (by decide), if_neg (by decide), if_neg (by decide), if_neg (by decide), if_neg (by decide), if_neg (by decide), if_pos (by decide)], A, rfl, hR⟩
    | 11, _ => exact ⟨_, κ, μ, by rw [if_neg (by decide), if_neg (by decide), if_neg (by decide), if_neg (by decide), if_neg (by decide), if_neg (by decide), if_neg (by decide), if_neg (by decide), if_neg (by decide), if_neg (by decide), if_neg (by decide), if_pos (by decide)], by rw [if_neg (by decide), if_neg (by decide), if_neg (by decide), if_neg (by decide), if_neg (by decide), if_neg (by decide), if_neg (by decide), if_neg (by decide), if_neg (by decide), if_neg (by decide), if_neg (by decide), if_pos (by decide)], A, rfl, hR⟩
    | 12, _ => exact ⟨_, κ, μ, by rw [if_neg (by decide), if_neg (by decide), if_neg (by decide), if_neg (by decide), if_neg (by decide), if_neg (by decide), if_neg (by decide), if_neg (by decide), if_neg (by decide), if_neg (by decide), if_neg (by decide), if_neg (by decide), if_pos (by decide)], by rw [if_neg (by decide), if_neg (by decide), if_neg (by decide), if_neg (by decide), if_neg (by decide), if_neg (by decide), if_neg (by decide), if_neg (by decide), if_neg (by decide), if_neg (by decide), if_neg (by decide), if_neg (by decide), if_pos (by decide)], A, rfl, hR⟩
    | 13, _ => exact ⟨_, κ, μ, by rw [if_neg (by decide), if_neg (by decide), if_neg (by decide), if_neg (by decide), if_neg (by decide), if_neg (by decide), if_neg (by decide), if_neg (by decide), if_neg (by decide), if_neg (by decide), if_neg (by decide), if_neg (by decide), if_neg (by decide), if_pos (by decide)], by rw [if_neg (by decide), if_neg (by decide), if_neg (by decide), if_neg (by decide), if_neg (by decide), if_neg (by decide), if_neg (by decide), if_neg (by decide), if_neg (by decide), if_neg (by decide), if_neg (by decide), if_neg (by decide), if_neg (by decide), if_pos (by decide)], A, rfl, hR⟩
theorem OkW.notes0 {S : Nat → Int32} (h : OkW S) : OkW (upd S 128 0) := by
  obtain ⟨c, h, e, q, n, a1, a2, a3, a4, a5, a6, a7, a8, a9, a10, a11, a12, a13, a14, a15⟩ := h
  have u : ∀ j, j ≠ 128 → upd S 128 0 j = S j := fun j hj => by rw [upd_at, if_neg hj]
  refine ⟨c, h, e, q, 0, a1, (u _ (by omega)).trans a2, a3, (u _ (by omega)).trans a4, a5, (u _ (by omega)).trans a6, ⟨by rw [u _ (by omega)]; exact a7.1, fun k hk => by rw [u _ (by omega)]; exact a7.2 k hk⟩, fun k hk => by rw [u _ (by omega)]; exact a8 k hk, ⟨fun k hk => by rw [u _ (by omega), u _ (by omega)]; exact a9.1 k hk, fun k hk => by rw [u _ (by omega), u _ (by omega)]; exact a9.2 k hk⟩, by rw [u _ (by omega)]; exact a10, a11, (u _ (by omega)).trans a12, by omega, by rw [upd_at, if_pos rfl]; rfl, fun i hi => absurd hi (by omega)⟩
/-- a note more -/
def noteS (S : Nat → Int32) (n : Nat) (a b c : Int32) : Nat → Int32 := upd (upd (upd (upd S (98 + 3 * n) a) (98 + 3 * n + 1) b) (98 + 3 * n + 2) c) 128 (nI (n + 1))
theorem noteS_o (S : Nat → Int32) {n j : Nat} (a b c : Int32) (hj : j < 98 + 3 * n ∨ 98 + 3 * n + 3 ≤ j ∧ j ≠ 128) (hn : n < 10) : noteS S n a b c j = S j := by
  unfold noteS
  rw [upd_at, if_neg (by omega), upd_at, if_neg (by omega), upd_at, if_neg (by omega), upd_at, if_neg (by omega)]
theorem sm_note (N : Nat) (x0 : Nat) : Sm_note N x0 (Rel x0) := by
  rintro κ μ a1 a2 a3 ⟨A, rfl, hR⟩
  have hs := hR.sh
  have hA := hs.inj
  have hOW := hR.ok
  obtain ⟨c, h, e, q, n, hO⟩ := hR.ok
  have hc10 : c ≤ 10 := hO.1
  have h3 : ga 7 μ 3 = nI c := hO.2.1
  have hl : fi κ (A 21) 2 = nI c := hR.wd.1.2.2.1.trans h3
  have hw := hR.wd
  obtain ⟨b1, b2, b3, b4, b5, b6, b7, b8, b9, b10, b11, b12, hn10, h128, hnv⟩ := hO
  have hz : fi κ (A 33) 0 = nI n := hw.2.2.2.1.1.trans h128
  have kk128 : (128 : Int32).toNatClampNeg = 128 := by decide
  unfold p_ErrataRow_note p12_note
  simp -implicitDefEqProofs only [hs.top, hs.w20, ck_1, bo_s, bd_s, c_within, c_isLetter N hs, c_isPut, m_in N a1 0 60 0 60 (by decide) (by decide), m_in N a3 0 7 0 7 (by decide) (by decide), m_isInBook, hl, h3, ite10, lt_s9, hz, kk128, h128]
  by_cases h1 : a1 = -1
  · rw [if_pos h1, if_pos h1]
    have g : Chg A (fun r => r = 33) κ (sfi (A 33) 0 0 κ) := Chg.sfi (L := fun r => r = 33) hA κ (r := 33) rfl _ _
    have u : ∀ j, j ≠ 128 → upd (ga 7 μ) 128 0 j = ga 7 μ j := fun j hj => by rw [upd_at, if_neg hj]
    refine ⟨_, _, _, rfl, rfl, A, rfl, hR.world (g.mono (fun r z => by omega)) ⟨fun k hk => rfl, fun k hk => ga_sa_ne hk _ _, fun k => rfl⟩ ⟨?_, ?_, ?_, ?_, ?_, ?_⟩ (by rw [ga_sa]; exact hOW.notes0) hR.fo hR.xx⟩
    · rw [ga_sa]
      exact (hw.1.chg g (fun r z1 z2 z3 => by omega)).congr' (fun j hj => (u j (by omega)).symm)
    · rw [ga_sa]
      exact (hw.2.1.chg g (fun r z1 z2 z3 => by omega)).congr (fun j z1 z2 => begS_c (fun i hi => (u i (by omega)).symm) j (by omega))
    · rw [ga_sa]
      exact (hw.2.2.1.chg g (fun r z1 z2 z3 => by omega)).congr (fun j z1 z2 => (u j (by omega)).symm)
    · rw [ga_sa]
      refine ⟨by rw [fi_fi, if_pos ⟨rfl, rfl⟩, upd_at, if_pos rfl], fun i hi h10 => ?_⟩
      rw [upd_at, if_pos rfl] at hi
      exact absurd hi (nI_nlt (b := 0) (by omega) (by omega))
    · rw [fi_fi, if_neg (fun z => hA.ne (by decide) z.1)]; exact hw.2.2.2.2.1
    · rw [fi_fi, if_neg (fun z => hA.ne (by decide) z.1)]; exact hw.2.2.2.2.2
  · rw [if_neg h1, if_neg h1]
    by_cases hn : 0 ≤ a1 ∧ a1 ≤ 60
    · by_cases hi : 0 ≤ a2 ∧ a2 < nI c
      · by_cases hp : 0 ≤ a3 ∧ a3 ≤ 7
        · rw [if_pos hn, if_pos hn, if_pos hi, if_pos hi, if_pos hp, if_pos hp]
          by_cases hf : n = 10
          · subst hf
            rw [if_neg (by decide), if_pos (by decide)]
            exact ⟨-2, κ, μ, rfl, rfl, A, rfl, hR⟩
          · have hnl : n < 10 := by omega
            rw [if_pos (show nI n < 10 from nI_lt (b := 10) hnl (by omega)), if_neg (show ¬ nI n = 10 from fun z => hf ((nI_eq (b := 10) (by omega) (by omega)).mp z))]
            obtain ⟨v1, v1h, rfl⟩ := in_nat 60 (by omega) rfl hn
            obtain ⟨v2, v2h, rfl⟩ := lt_nat (by omega) hi
            obtain ⟨v3, v3h, rfl⟩ := in_nat 7 (by omega) rfl hp
            have em : (98 : Int32) + 3 * nI n = nI (98 + 3 * n) := by
              rw [show (3 : Int32) = nI 3 from rfl, pk_mul, show (98 : Int32) = nI 98 from rfl, nI_add]
            have em1 : nI (98 + 3 * n) + 1 = nI (98 + 3 * n + 1) := nI_1 _
            have em2 : nI (98 + 3 * n) + 2 = nI (98 + 3 * n + 2) := nI_add _ 2
            have p1 : (128 = 98 + 3 * n) = False := by simp; omega
            have p2 : (128 = 98 + 3 * n + 1) = False := by simp; omega
            have p3 : (128 = 98 + 3 * n + 2) = False := by simp; omega
            have n1 : ¬ A 35 = A 34 := hA.ne (by decide)
            have n2 : ¬ A 36 = A 34 := hA.ne (by decide)
            have n3 : ¬ A 36 = A 35 := hA.ne (by decide)
            have n4 : ¬ A 34 = A 35 := hA.ne (by decide)
            have n5 : ¬ A 34 = A 36 := hA.ne (by decide)
            have n6 : ¬ A 35 = A 36 := hA.ne (by decide)
            unfold p_Notes_add
            simp -implicitDefEqProofs only [em, em1, em2, inbT (show 98 + 3 * n < 129 by omega) (by decide), inbT (show 98 + 3 * n + 1 < 129 by omega) (by decide), inbT (show 98 + 3 * n + 2 < 129 by omega) (by decide), clN (show 98 + 3 * n < 2147483648 by omega), clN (show 98 + 3 * n + 1 < 2147483648 by omega), clN (show 98 + 3 * n + 2 < 2147483648 by omega), ga_sa, sa_sa, ck_1, hs.w20, hz, bo_s, lt_s9, inbT hnl (by decide), clN (show n < 2147483648 by omega), isK_ai, fr_ai, ln_ai, fi_ai, isK_fi, fi_fi, ai_ai, n1, n2, n3, if_false, upd_at, p1, p2, p3, h128, nI_1, if_true, and_self]
            rw [if_neg (show ¬ (10 : Int32) ≤ nI n from nI_ge (b := 10) hnl (by omega)), bo_s]
            simp -implicitDefEqProofs only [isK_fi, isK_ai, hs.w20, ck_1, fi_fi, and_self, if_true]
            have g : Chg A (fun r => 33 ≤ r ∧ r ≤ 36) κ (sfi (A 33) 0 (nI (n + 1)) (sai (A 36) (upd (ai κ (A 36)) n (nI v3)) (sai (A 35) (upd (ai κ (A 35)) n (nI v2)) (sai (A 34) (upd (ai κ (A 34)) n (nI v1)) κ)))) := (((Chg.sai (L := fun r => 33 ≤ r ∧ r ≤ 36) hA κ (r := 34) (by omega) _).trans (Chg.sai (L := fun r => 33 ≤ r ∧ r ≤ 36) hA _ (r := 35) (by omega) _)).trans (Chg.sai (L := fun r => 33 ≤ r ∧ r ≤ 36) hA _ (r := 36) (by omega) _)).trans (Chg.sfi (L := fun r => 33 ≤ r ∧ r ≤ 36) hA _ (r := 33) (by omega) _ _)
            have hS : ∀ T : Nat → Int32, T = noteS (ga 7 μ) n (nI v1) (nI v2) (nI v3) → RelA A (sfi (A 33) 0 (nI (n + 1)) (sai (A 36) (upd (ai κ (A 36)) n (nI v3)) (sai (A 35) (upd (ai κ (A 35)) n (nI v2)) (sai (A 34) (upd (ai κ (A 34)) n (nI v1)) κ)))) (sa 7 T μ) := by
              rintro T rfl
              have o : ∀ j, j < 98 → noteS (ga 7 μ) n (nI v1) (nI v2) (nI v3) j = ga 7 μ j := fun j hj => noteS_o _ _ _ _ (by omega) hnl
              have t128 : noteS (ga 7 μ) n (nI v1) (nI v2) (nI v3) 128 = nI (n + 1) := by unfold noteS; rw [upd_at, if_pos rfl]
              have tn0 : noteS (ga 7 μ) n (nI v1) (nI v2) (nI v3) (98 + 3 * n) = nI v1 := by unfold noteS; rw [upd_at, if_neg (by omega), upd_at, if_neg (by omega), upd_at, if_neg (by omega), upd_at, if_pos rfl]
              have tn1 : noteS (ga 7 μ) n (nI v1) (nI v2) (nI v3) (98 + 3 * n + 1) = nI v2 := by unfold noteS; rw [upd_at, if_neg (by omega), upd_at, if_neg (by omega), upd_at, if_pos rfl]
              have tn2 : noteS (ga 7 μ) n (nI v1) (nI v2) (nI v3) (98 + 3 * n + 2) = nI v3 := by unfold noteS; rw [upd_at, if_neg (by omega), upd_at, if_pos rfl]
              have old : ∀ i d, i < n → d < 3 → noteS (ga 7 μ) n (nI v1) (nI v2) (nI v3) (98 + 3 * i + d) = ga 7 μ (98 + 3 * i + d) := fun i d hi hd => noteS_o _ _ _ _ (by omega) hnl
              refine hR.world (g.mono (fun r z => by omega)) ⟨fun k hk => rfl, fun k hk => ga_sa_ne hk _ _, fun k => rfl⟩ ⟨?_, ?_, ?_, ?_, ?_, ?_⟩ ?_ hR.fo hR.xx
              · rw [ga_sa]
                exact (hw.1.chg g (fun r z1 z2 z3 => by omega)).congr' (fun j hj => (o j hj).symm)
              · rw [ga_sa]
                exact (hw.2.1.chg g (fun r z1 z2 z3 => by omega)).congr (fun j z1 z2 => begS_c (fun i hi => (o i hi).symm) j (by omega))
              · rw [ga_sa]
                exact (hw.2.2.1.chg g (fun r z1 z2 z3 => by omega)).congr (fun j z1 z2 => (o j (by omega)).symm)
              · rw [ga_sa]
                refine ⟨by rw [fi_fi, if_pos ⟨rfl, rfl⟩, t128], fun i hi hi10 => ?_⟩
                rw [t128] at hi
                have hin : i < n + 1 := (nI_ltI (by omega) (by omega)).mp hi
                simp only [ai_fi]
                rw [ai_ai, if_neg n5, ai_ai, if_neg n4, ai_ai, if_pos rfl, ai_ai, if_neg n6, ai_ai, if_pos rfl, ai_ai, if_pos rfl]
                by_cases q : i = n
                · subst q
                  rw [upd_at, if_pos rfl, upd_at, if_pos rfl, upd_at, if_pos rfl, tn0, tn1, tn2]
                  exact ⟨rfl, rfl, rfl⟩
                · rw [upd_at, if_neg q, upd_at, if_neg q, upd_at, if_neg q]
                  have ho := hw.2.2.2.1.2 i (by rw [h128]; exact nI_lt (by omega) (by omega)) hi10
                  rw [show noteS (ga 7 μ) n (nI v1) (nI v2) (nI v3) (98 + 3 * i) = ga 7 μ (98 + 3 * i) from old i 0 (by omega) (by omega), old i 1 (by omega) (by omega), old i 2 (by omega) (by omega)]
                  exact ho
              · rw [fi_fi, if_neg (fun z => hA.ne (by decide) z.1)]; exact hw.2.2.2.2.1
              · rw [fi_fi, if_neg (fun z => hA.ne (by decide) z.1)]; exact hw.2.2.2.2.2
              · rw [ga_sa]
                refine ⟨c, h, e, q, n + 1, b1, (o _ (by omega)).trans b2, b3, (o _ (by omega)).trans b4, b5, (o _ (by omega)).trans b6, ⟨by rw [o _ (by omega)]; exact b7.1, fun k hk => by rw [o _ (by omega)]; exact b7.2 k hk⟩, fun k hk => by rw [o _ (by omega)]; exact b8 k hk, ⟨fun k hk => by rw [o _ (by omega), o _ (by omega)]; exact b9.1 k hk, fun k hk => by rw [o _ (by omega), o _ (by omega)]; exact b9.2 k hk⟩, by rw [o _ (by omega)]; exact b10, b11, (o _ (by omega)).trans b12, by omega, t128, fun i hi => ?_⟩
                unfold NtV
                by_cases q : i = n
                · subst q
                  rw [tn0, tn1, tn2]
                  exact ⟨⟨v1, v1h, rfl⟩, ⟨v2, v2h, rfl⟩, ⟨v3, by omega, rfl⟩⟩
                · rw [show noteS (ga 7 μ) n (nI v1) (nI v2) (nI v3) (98 + 3 * i) = ga 7 μ (98 + 3 * i) from old i 0 (by omega) (by omega), old i 1 (by omega) (by omega), old i 2 (by omega) (by omega)]
                  exact hnv i (by omega)
            exact ⟨_, _, _, rfl, rfl, A, rfl, hS _ rfl⟩
        · rw [if_pos hn, if_pos hn, if_pos hi, if_pos hi, if_neg hp, if_neg hp]
          exact ⟨-2, κ, μ, rfl, rfl, A, rfl, hR⟩
      · rw [if_pos hn, if_pos hn, if_neg hi, if_neg hi]
        exact ⟨-2, κ, μ, rfl, rfl, A, rfl, hR⟩
    · rw [if_neg hn, if_neg hn]
      exact ⟨-2, κ, μ, rfl, rfl, A, rfl, hR⟩
