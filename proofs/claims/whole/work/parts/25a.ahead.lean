/-! ahead -/
theorem told_or {S : Nat → Int32} {c h e q n : Nat} (hO : OkV S c h e q n) : S 0 = 1 ∨ S 0 = 0 := hO.2.2.2.2.2.2.2.2.2.1.imp (fun z => z.1) (fun z => z.1)
theorem OkV.told {S : Nat → Int32} {c h e q n k : Nat} (hO : OkV S c h e q n) (hk : k < c) : S 0 = 1 := by
  rcases hO.2.2.2.2.2.2.2.2.2.1 with z | z
  · exact z.1
  · omega
theorem ne01 : ¬ (0 : Int32) = 1 := by decide
theorem sm_ahead (N : Nat) (hN : 20000 ≤ N) (x0 : Nat) : Sm_ahead N x0 (Rel x0) := by
  rintro κ μ a1 a2 a3 ⟨A, rfl, hR⟩
  have hs := hR.sh
  obtain ⟨c, h, e, q, nn, hO⟩ := hR.ok
  have hc10 : c ≤ 10 := hO.1
  have h3 : ga 7 μ 3 = nI c := hO.2.1
  have h0 : fi κ (A 21) 0 = ga 7 μ 0 := hR.wd.1.1
  have hl : fi κ (A 21) 2 = nI c := hR.wd.1.2.2.1.trans h3
  unfold p_ErrataRow_ahead p12_ahead
  simp -implicitDefEqProofs only [hs.top, hs.w20, ck_1, bo_s, bd_s, c_within, c_isLetter N hs, m_in N a2 0 100 0 100 (by decide) (by decide), m_in N a3 0 3 0 3 (by decide) (by decide), m_isBook, m_isInBook, h0, hl, h3, ite10]
  rcases told_or hO with hb | hb
  · simp only [hb, ne10, if_true, if_false]
    by_cases hn : 0 ≤ a2 ∧ a2 ≤ 100
    · by_cases hw : 0 ≤ a3 ∧ a3 ≤ 3
      · rw [if_pos hn, if_pos hn, if_pos hw, if_pos hw]
        have core : (a3 = 0 → 0 ≤ a1 ∧ a1 < nI c) → ∃ (r : Int32) (κ1 : Cz) (μ1 : Mz), b_ErrataRow_ahead_48 N (A 0) a1 a2 a3 κ = some (r, κ1) ∧ b12_ahead_45 N a1 a2 a3 μ = some (r, μ1) ∧ Rel (A 0) κ1 μ1 := by
          intro hl0
          obtain ⟨n, hn1, rfl⟩ := in_nat 100 (by omega) rfl hn
          obtain ⟨κ1, μ1, e1, ek, g1, hT1, m1, hK1, sb1, h71⟩ := q_begin N hN hR hO hb
          have he : e ≤ 999 := hO.2.2.2.2.1
          obtain ⟨κ2, μ2, e2, e3, hT2, g2, mc2, sb2, -⟩ := tr_go N hN (n := n) (by omega) (by omega) hT1
          have elb := m_back N (by omega) (hK1.mc mc2) (sb1.trans sb2)
          have hRel : Rel (A 0) κ2 (sa 7 (ga 7 μ) μ2) := ⟨A, rfl, q_close hR (g1.trans (g2.ch.mono Dc_Lp)) ((m1.trans mc2.mq).trans (Mq.row (Or.inl rfl) _)) (ga_sa _ _ _)⟩
          have hs2 := hT2.1
          have hs1 := hT1.1
          obtain ⟨-, hB2, hS2, hO2, -⟩ := hT2
          have hc2 : ga 7 μ2 3 = nI c := hO2.2.1
          unfold b_ErrataRow_ahead_48 b12_ahead_45
          simp -implicitDefEqProofs only [hs.top, hs.w20, ck_1, bo_s, e1, hs1.top, e2, ek, e3, hs2.top, hs2.tr, hs2.pr, hS2.2.2.1, hS2.2.1, c_wrongOf N (by omega) hs2 hs2.st66 hB2 hS2 hc2 hc10, m_wrong N (by omega) μ2 hc2 hc10, bd_s, lt_s9, elb]
          obtain ⟨w, hw1, rfl⟩ := in_nat 3 (by omega) rfl hw
          match w, hw1 with
          | 0, _ =>
            obtain ⟨k, hk, rfl⟩ := lt_nat (by omega) (hl0 rfl)
            have hk10 : k < 10 := by omega
            have e13 : (13 : Int32) + nI k = nI (13 + k) := nI_add 13 k
            refine ⟨ga 7 μ2 (13 + k), κ2, _, ?_, ?_, hRel⟩
            · rw [if_neg (by decide), if_pos (by decide), inbT hk10 (by decide), ck_1, clN (by omega), hS2.2.2.2.1 k hk10]
            · rw [if_pos (by decide), e13, inbT (show 13 + k < 129 by omega) (by decide), ck_1, clN (by omega)]
          | 1, _ => exact ⟨_, κ2, _, by rw [if_neg (by decide), if_neg (by decide), if_pos (by decide)], by rw [if_neg (by decide), if_pos (by decide)], hRel⟩
          | 2, _ => exact ⟨_, κ2, _, by rw [if_neg (by decide), if_neg (by decide), if_neg (by decide), if_pos (by decide)], by rw [if_neg (by decide), if_neg (by decide), if_pos (by decide)]; rfl, hRel⟩
          | 3, _ => exact ⟨_, κ2, _, by rw [if_pos (by decide)], by rw [if_neg (by decide), if_neg (by decide), if_neg (by decide)]; rfl, hRel⟩
        by_cases h00 : a3 = 0
        · rw [if_pos h00, if_pos h00]
          by_cases hi : 0 ≤ a1 ∧ a1 < nI c
          · rw [if_pos hi, if_pos hi]
            exact core (fun _ => hi)
          · rw [if_neg hi, if_neg hi]
            exact ⟨-1, κ, μ, rfl, rfl, A, rfl, hR⟩
        · rw [if_neg h00, if_neg h00]
          exact core (fun z => absurd z h00)
      · rw [if_pos hn, if_pos hn, if_neg hw, if_neg hw]
        exact ⟨-1, κ, μ, rfl, rfl, A, rfl, hR⟩
    · rw [if_neg hn, if_neg hn]
      exact ⟨-1, κ, μ, rfl, rfl, A, rfl, hR⟩
  · simp only [hb, ne01, if_true, if_false]
    exact ⟨-1, κ, μ, rfl, rfl, A, rfl, hR⟩
