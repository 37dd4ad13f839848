/-! allRight, firstRight, unpaid -/
theorem right_both (N : Nat) (hN : 20000 ≤ N) {A : Nat → Nat} {κ : Cz} {μ : Mz} {c h e q n : Nat} (hR : RelA A κ μ) (hO : OkV (ga 7 μ) c h e q n) (hb : ga 7 μ 0 = 1) (x y : Int32) (hxy : ∀ p : Nat → Bool, (bitsF p c 0 &&& x) = 0 ↔ (bitsF p c 0 &&& y) = 0) : ∃ (r : Int32) (κ1 : Cz) (μ1 : Mz), p_ErrataRow_firstWithoutWrong N (A 0) x κ = some (r, κ1) ∧ p12_rightIn N y μ = some (r, μ1) ∧ RelA A κ1 μ1 := by
  have hs := hR.sh
  have hc10 : c ≤ 10 := hO.1
  have he : e ≤ 999 := hO.2.2.2.2.1
  obtain ⟨κ1, μ1, e1, ek, g1, hT1, m1, hK1, sb1, h71⟩ := q_begin N hN hR hO hb
  have L := upP 200 (fun f i => ∀ (κ : Cz) (μ1 : Mz), TR A κ μ1 c h (e + i) → Kp μ1 (ga 7 μ) → Sb (ga 7 μ) (ga 7 μ1) → ∃ (r : Int32) (κ2 : Cz) (μ2 : Mz), b_ErrataRow_firstWithoutWrong_13 N f (A 0) x (nI i) κ = some (r, κ2) ∧ b12_rightIn_9 N f y (-2) (nI i) μ1 = some (r, sa 7 (ga 7 μ) μ2) ∧ Chg A (Lp 66) κ κ2 ∧ MCh Ip Rp μ1 μ2) (by
    intro f κ μ1 hT hK sb
    refine ⟨-2, κ, μ1, ?_, ?_, Chg.refl _ _ _, MCh.refl _ _ _⟩
    · rw [b_ErrataRow_firstWithoutWrong_13, if_pos (show (200 : Int32) ≤ nI 200 from nI_le (a := 200) (b := 200) (by omega) (by omega))]
    · rw [b12_rightIn_9, if_pos (show (200 : Int32) ≤ nI 200 from nI_le (a := 200) (b := 200) (by omega) (by omega)), m_back N (by omega) hK sb, bo_s]) (by
    intro f i hi ih κ μ1 hT hK sb
    have hs := hT.1
    have h10 : fi κ (A 66) 5 = nI (e + i) := hT.2.2.1.1.trans hT.2.2.2.1.2.2.2.2.2.1
    obtain ⟨m, κ2, μ2, e1, e2, hT2, g2, mc2, sb2, -⟩ := tr_pass N (by omega) hT (by omega)
    have hs2 := hT2.1
    have hK2 := hK.mc mc2
    have hsb2 := sb.trans sb2
    have hT2' := hT2
    obtain ⟨-, hB2, hS2, hO2, -⟩ := hT2
    have hc2 : ga 7 μ2 3 = nI c := hO2.2.1
    have h102 : ga 7 μ2 10 = nI (e + i + 1) := hO2.2.2.2.2.2.1
    have n2 : ¬ (200 : Int32) ≤ nI i := nI_ge (b := 200) hi (by omega)
    rw [b_ErrataRow_firstWithoutWrong_13, b12_rightIn_9, if_neg n2, if_neg n2, if_neg (show ¬ (0 : Int32) ≤ -2 by decide)]
    simp -implicitDefEqProofs only [hs.top, hs.tr, hs.pr, ck_1, bo_s, bd_s, lt_s9, h10, e1, e2, hs2.top, hs2.pr, c_wrongOf N (by omega) hs2 hs2.st66 hB2 hS2 hc2 hc10, m_wrong N (by omega) μ2 hc2 hc10, nI_1, k10, h102]
    have hx2 : (sWrong (ga 7 μ2) c &&& x) = 0 ↔ (sWrong (ga 7 μ2) c &&& y) = 0 := hxy _
    by_cases hz : (sWrong (ga 7 μ2) c &&& x) = 0
    · rw [if_pos hz, if_pos (hx2.mp hz), sub1]
      refine ⟨_, κ2, μ2, rfl, ?_, g2, mc2⟩
      rw [b12_rightIn_9]
      by_cases h2 : (200 : Int32) ≤ nI (i + 1)
      · rw [if_pos h2, m_back N (by omega) hK2 hsb2, bo_s]
      · rw [if_neg h2, if_pos (nI_pos' (by omega)), m_back N (by omega) hK2 hsb2, bo_s]
    · rw [if_neg hz, if_neg (fun z => hz (hx2.mpr z))]
      obtain ⟨r, κ3, μ3, e3, e4, g3, mc3⟩ := ih κ2 μ2 hT2' hK2 hsb2
      exact ⟨r, κ3, μ3, e3, e4, g2.trans g3, mc2.trans mc3⟩) N 0 (by omega) (by omega) κ1 μ1 hT1 hK1 sb1
  obtain ⟨r, κ2, μ2, e2, e3, g2, mc2⟩ := L
  rw [nI_0] at e2 e3
  refine ⟨r, κ2, _, ?_, ?_, q_close hR (g1.trans (g2.ch.mono Dc_Lp)) ((m1.trans mc2.mq).trans (Mq.row (Or.inl rfl) _)) (ga_sa _ _ _)⟩
  · unfold p_ErrataRow_firstWithoutWrong
    simp -implicitDefEqProofs only [hs.top, hs.w20, ck_1, bo_s, e1, e2]
  · unfold p12_rightIn
    rw [ek, bo_s, e3]
theorem and_m1 (x : Int32) : x &&& (-1) = x := b_ext (fun i hi => by rw [b_and, b_m1 i hi, Bool.and_true])
theorem all_mask {c : Nat} (hc : c ≤ 10) (p : Nat → Bool) : (bitsF p c 0 &&& (-1)) = 0 ↔ (bitsF p c 0 &&& 1023) = 0 := by
  obtain ⟨v, hv, e⟩ := bitsF_1024 p hc
  rw [and_m1, e, pk_andN (show v < 2 ^ 32 by omega) 10 (by decide), show v % 2 ^ 10 = v from Nat.mod_eq_of_lt hv]
theorem sm_allRight (N : Nat) (hN : 20000 ≤ N) (x0 : Nat) : Sm_allRight N x0 (Rel x0) := by
  rintro κ μ ⟨A, rfl, hR⟩
  have hs := hR.sh
  obtain ⟨c, h, e, q, nn, hO⟩ := hR.ok
  have h0 : fi κ (A 21) 0 = ga 7 μ 0 := hR.wd.1.1
  unfold p_ErrataRow_allRight p12_allRight
  simp -implicitDefEqProofs only [hs.top, hs.w20, ck_1, bo_s, bd_s, m_isBook, h0, ite10]
  rcases told_or hO with hb | hb
  · simp only [hb, ne10, if_true, if_false]
    obtain ⟨r, κ1, μ1, e1, e2, hR1⟩ := right_both N hN hR hO hb (-1) 1023 (all_mask hO.1)
    rw [e1, e2]
    exact ⟨r, κ1, μ1, rfl, rfl, A, rfl, hR1⟩
  · simp only [hb, ne01, if_true, if_false]
    exact ⟨-1, κ, μ, rfl, rfl, A, rfl, hR⟩
theorem sm_firstRight (N : Nat) (hN : 20000 ≤ N) (x0 : Nat) : Sm_firstRight N x0 (Rel x0) := by
  rintro κ μ a1 ⟨A, rfl, hR⟩
  have hs := hR.sh
  obtain ⟨c, h, e, q, nn, hO⟩ := hR.ok
  have h3 : ga 7 μ 3 = nI c := hO.2.1
  have hl : fi κ (A 21) 2 = nI c := hR.wd.1.2.2.1.trans h3
  unfold p_ErrataRow_firstRight p12_firstRight
  simp -implicitDefEqProofs only [hs.top, ck_1, bd_s, c_isLetter N hs, m_isInBook, hl, h3, ite10]
  by_cases hi : 0 ≤ a1 ∧ a1 < nI c
  · rw [if_pos hi, if_pos hi]
    obtain ⟨k, hk, rfl⟩ := lt_nat (by have := hO.1; omega) hi
    obtain ⟨r, κ1, μ1, e1, e2, hR1⟩ := right_both N hN hR hO (hO.told hk) (bitI k) (bitI k) (fun _ => Iff.rfl)
    rw [e1, e2]
    exact ⟨r, κ1, μ1, rfl, rfl, A, rfl, hR1⟩
  · rw [if_neg hi, if_neg hi]
    exact ⟨-1, κ, μ, rfl, rfl, A, rfl, hR⟩
theorem sm_unpaid (N : Nat) (hN : 20000 ≤ N) (x0 : Nat) : Sm_unpaid N x0 (Rel x0) := by
  rintro κ μ a1 ⟨A, rfl, hR⟩
  have hs := hR.sh
  obtain ⟨c, h, e, q, nn, hO⟩ := hR.ok
  have hc10 : c ≤ 10 := hO.1
  have he : e ≤ 999 := hO.2.2.2.2.1
  have h0 : fi κ (A 21) 0 = ga 7 μ 0 := hR.wd.1.1
  unfold p_ErrataRow_unpaid p12_unpaid
  simp -implicitDefEqProofs only [hs.top, hs.w20, ck_1, bo_s, bd_s, c_within, m_in N a1 0 1 0 1 (by decide) (by decide), m_isBook, h0, ite10]
  rcases told_or hO with hb | hb
  · simp only [hb, ne10, if_true, if_false]
    by_cases hw : 0 ≤ a1 ∧ a1 ≤ 1
    · rw [if_pos hw, if_pos hw]
      obtain ⟨κ1, μ1, e1, ek, g1, hT1, m1, hK1, sb1, h71⟩ := q_begin N hN hR hO hb
      have L := upP 200 (fun f i => ∀ (κ : Cz) (μ1 : Mz), TR A κ μ1 c h (e + i) → Kp μ1 (ga 7 μ) → Sb (ga 7 μ) (ga 7 μ1) → ∃ (r : Int32) (κ2 : Cz) (μ2 : Mz), b_ErrataRow_unpaid_37 N f (A 0) a1 (nI i) κ = some (r, κ2) ∧ b12_unpaid_28 N f a1 (-2) (nI i) μ1 = some (r, sa 7 (ga 7 μ) μ2) ∧ Chg A (Lp 66) κ κ2 ∧ MCh Ip Rp μ1 μ2) (by
        intro f κ μ1 hT hK sb
        refine ⟨-2, κ, μ1, ?_, ?_, Chg.refl _ _ _, MCh.refl _ _ _⟩
        · rw [b_ErrataRow_unpaid_37, if_pos (show (200 : Int32) ≤ nI 200 from nI_le (a := 200) (b := 200) (by omega) (by omega))]
        · rw [b12_unpaid_28, if_pos (show (200 : Int32) ≤ nI 200 from nI_le (a := 200) (b := 200) (by omega) (by omega)), m_back N (by omega) hK sb, bo_s]) (by
        intro f i hi ih κ μ1 hT hK sb
        have hs := hT.1
        have h10 : fi κ (A 66) 5 = nI (e + i) := hT.2.2.1.1.trans hT.2.2.2.1.2.2.2.2.2.1
        obtain ⟨m, κ2, μ2, e1, e2, hT2, g2, mc2, sb2, o1, -, ⟨q1, o2⟩, -⟩ := tr_pass N (by omega) hT (by omega)
        have hs2 := hT2.1
        have hK2 := hK.mc mc2
        have hsb2 := sb.trans sb2
        have h102 : ga 7 μ2 10 = nI (e + i + 1) := hT2.2.2.2.1.2.2.2.2.2.1
        have n2 : ¬ (200 : Int32) ≤ nI i := nI_ge (b := 200) hi (by omega)
        have fin : ∀ v : Int32, 0 ≤ v → b12_unpaid_28 N (f + 1) a1 v (nI (i + 1)) μ2 = some (v, sa 7 (ga 7 μ) μ2) := by
          intro v hv
          rw [b12_unpaid_28]
          by_cases h2 : (200 : Int32) ≤ nI (i + 1)
          · rw [if_pos h2, m_back N (by omega) hK2 hsb2, bo_s]
          · rw [if_neg h2, if_pos hv, m_back N (by omega) hK2 hsb2, bo_s]
        rw [b_ErrataRow_unpaid_37, b12_unpaid_28, if_neg n2, if_neg n2, if_neg (show ¬ (0 : Int32) ≤ -2 by decide)]
        simp -implicitDefEqProofs only [hs.top, hs.tr, hs.pr, ck_1, bo_s, bd_s, lt_s9, h10, e1, e2, hs2.top, hs2.pr, o1, nI_1, k10, h102, sub1, c_tz]
        by_cases hz : gi 14 μ2 = 0
        · rw [if_pos hz, if_pos hz]
          obtain ⟨r, κ3, μ3, e3, e4, g3, mc3⟩ := ih κ2 μ2 hT2 hK2 hsb2
          exact ⟨r, κ3, μ3, e3, e4, g2.trans g3, mc2.trans mc3⟩
        · rw [if_neg hz, if_neg hz]
          by_cases h00 : a1 = 0
          · rw [if_pos h00, if_pos h00, fin _ (nI_pos' (by omega))]
            exact ⟨_, κ2, μ2, rfl, rfl, g2, mc2⟩
          · rw [if_neg h00, if_neg h00]
            rw [o2] at hz ⊢
            obtain ⟨k, k1, k2, -, -⟩ := tz_F _ hc10 hz
            rw [least_both N (by omega) _ hc10 hz, bo_s, fin _ (by rw [k2]; exact nI_pos' (by omega))]
            exact ⟨_, κ2, μ2, rfl, rfl, g2, mc2⟩) N 0 (by omega) (by omega) κ1 μ1 hT1 hK1 sb1
      obtain ⟨r, κ2, μ2, e2, e3, g2, mc2⟩ := L
      rw [nI_0] at e2 e3
      rw [e1, ek, bo_s, bo_s, e2, e3]
      exact ⟨r, κ2, _, rfl, rfl, A, rfl, q_close hR (g1.trans (g2.ch.mono Dc_Lp)) ((m1.trans mc2.mq).trans (Mq.row (Or.inl rfl) _)) (ga_sa _ _ _)⟩
    · rw [if_neg hw, if_neg hw]
      exact ⟨-1, κ, μ, rfl, rfl, A, rfl, hR⟩
  · simp only [hb, ne01, if_true, if_false]
    exact ⟨-1, κ, μ, rfl, rfl, A, rfl, hR⟩
