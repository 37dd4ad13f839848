/-! slips -/
def nxt (x : Nat) : Nat := (x * 1103515245 + 12345) % 2147483648
theorem nxt_lt (x : Nat) : nxt x < 2147483648 := Nat.mod_lt _ (by decide)
theorem lcg_l {x : Nat} (hx : x < 2147483648) : (lN x * 1103515245 + 12345) - (lN x * 1103515245 + 12345) / 2147483648 * 2147483648 = lN (nxt x) := by
  rw [show (1103515245 : Int64) = lN 1103515245 from rfl, show (12345 : Int64) = lN 12345 from rfl, show (2147483648 : Int64) = lN 2147483648 from rfl, lN_mul, lN_add]
  exact pk_lRem (by omega) (by omega) (by omega)
theorem c_nextX (N : Nat) {x : Nat} (hx : x < 2147483648) (κ : Cz) : p_ErrataRow_nextX N (nI x) κ = some (nI (nxt x), κ) := by
  unfold p_ErrataRow_nextX
  rw [nI_l (show x < 2 ^ 31 by omega), lcg_l hx, lN_i]
theorem c_drawOf (N : Nat) {x : Nat} (hx : x < 2147483648) (κ : Cz) : p_ErrataRow_drawOf N (nI x) κ = some (nI (x / 65536), κ) := by
  unfold p_ErrataRow_drawOf
  rw [show (65536 : Int32) = nI 65536 from rfl, pk_div (show x < 2 ^ 31 by omega) (by omega) (by omega)]
theorem m_draw (N : Nat) {x o : Nat} {μ : Mz} (hx : x < 2147483648) (ho : 0 < o) (ho2 : o < 2147483648) (hg : gj 0 μ = lN x) : p12_draw N (nI o) μ = some (nI (nxt x / 65536 % o), sj 0 (lN (nxt x)) μ) := by
  unfold p12_draw
  have n1 := nxt_lt x
  have e1 : lN (nxt x) / 65536 = lN (nxt x / 65536) := by
    rw [show (65536 : Int64) = lN 65536 from rfl]
    exact pk_lDiv (by omega) (by omega) (by omega)
  have e2 : lN (nxt x / 65536) - lN (nxt x / 65536) / lN o * lN o = lN (nxt x / 65536 % o) := pk_lRem (by omega) ho (by omega)
  have hz : nzL (lN o) = true := by
    refine decide_eq_true (fun z => ?_)
    have := (lN_eq (a := o) (b := 0) (by omega) (by omega)).mp z
    omega
  rw [hg, lcg_l hx, lt_s9, lt_s9, gj_sj, nI_l (show o < 2 ^ 31 by omega), hz, ck_1, e1, e2, lN_i]
theorem slip_both (N : Nat) (hN : 20000 ≤ N) {A : Nat → Nat} {κ : Cz} {μ : Mz} {c h e x p : Nat} (hT : TR A κ μ c h e) (hx : x < 2147483648) (hg : gj 0 μ = lN x) (K : Int32 → Mz → Option (Int32 × Mz)) : ∃ (x1 : Nat) (κ1 : Cz) (μ1 : Mz), p_ErrataRow_slip N (A 0) (nI x) (nI p) κ = some (nI x1, κ1) ∧ (bd (p12_draw N 100 μ) (fun r14 μ14 => if nI p ≤ r14 then bd (p12_passes N μ14) K else if (ga 7 μ14 (3 : Int32).toNatClampNeg) ≤ 0 then bd (p12_passes N μ14) K else bo (p12_slipsOne N μ14) (fun μ19 => bd (p12_passes N μ19) K))) = bd (p12_passes N μ1) K ∧ x1 < 2147483648 ∧ gj 0 μ1 = lN x1 ∧ TR A κ1 μ1 c h e ∧ Chg A (Lp 66) κ κ1 ∧ Mq μ μ1 ∧ Sb (ga 7 μ) (ga 7 μ1) ∧ ga 9 μ1 = ga 9 μ := by
  have hs := hT.1
  have hA := hs.inj
  have hc10 : c ≤ 10 := hT.2.2.2.1.2.2.1
  have h3 : ga 7 μ 3 = nI c := hT.2.2.2.1.2.1
  have hl : fi κ (A 21) 2 = nI c := hT.2.1.2.2.1.trans h3
  have n1 := nxt_lt x
  have n2 := nxt_lt (nxt x)
  have n3 := nxt_lt (nxt (nxt x))
  have d1 := m_draw N (o := 100) hx (by omega) (by omega) hg
  have e100 : nI (nxt x / 65536) - nI (nxt x / 65536) / 100 * 100 = nI (nxt x / 65536 % 100) := pk_rem (d := 100) (by omega) (by omega) (by omega)
  have d1' : p12_draw N 100 μ = some (nI (nxt x / 65536 % 100), sj 0 (lN (nxt x)) μ) := d1
  have hT1 : TR A κ (sj 0 (lN (nxt x)) μ) c h e := hT.fram (Chg.refl _ _ _) (Mq.drw _ _) rfl
  rw [d1', bd_s]
  unfold p_ErrataRow_slip
  simp -implicitDefEqProofs only [c_nextX N hx, c_drawOf N n1, bd_s, hs.top, hs.w20, ck_1, bo_s, hl, lt_s9, e100]
  by_cases hp : nI p ≤ nI (nxt x / 65536 % 100)
  · rw [if_pos hp, if_pos hp]
    exact ⟨nxt x, κ, _, rfl, rfl, n1, gj_sj _ _ _, hT1, Chg.refl _ _ _, Mq.drw _ _, Sb.refl _, rfl⟩
  · rw [if_neg hp, if_neg hp, show ga 7 (sj 0 (lN (nxt x)) μ) (3 : Int32).toNatClampNeg = nI c from h3]
    by_cases hc0 : c = 0
    · subst hc0
      rw [if_pos (by decide), if_pos (by decide)]
      exact ⟨nxt x, κ, _, rfl, rfl, n1, gj_sj _ _ _, hT1, Chg.refl _ _ _, Mq.drw _ _, Sb.refl _, rfl⟩
    · have hnz : nz (nI c) = true := decide_eq_true (nI_ne0 (by omega) (by omega))
      rw [if_neg (nI_ne0 (by omega) (by omega)), if_neg (nI_nle (by omega) (by omega))]
      have hl1 : nxt (nxt x) / 65536 % c < c := Nat.mod_lt _ (by omega)
      have hl10 : nxt (nxt x) / 65536 % c < 10 := by omega
      have ec : nI (nxt (nxt x) / 65536) - nI (nxt (nxt x) / 65536) / nI c * nI c = nI (nxt (nxt x) / 65536 % c) := pk_rem (by omega) (by omega) (by omega)
      have e8 : nI (nxt (nxt (nxt x)) / 65536) - nI (nxt (nxt (nxt x)) / 65536) / 8 * 8 = nI (nxt (nxt (nxt x)) / 65536 % 8) := pk_rem (d := 8) (by omega) (by omega) (by omega)
      have h8 : nxt (nxt (nxt x)) / 65536 % 8 < 8 := Nat.mod_lt _ (by omega)
      have hT2 : TR A κ (sj 0 (lN (nxt (nxt (nxt x)))) (sj 0 (lN (nxt (nxt x))) (sj 0 (lN (nxt x)) μ))) c h e := hT.fram (Chg.refl _ _ _) (((Mq.drw _ _).trans (Mq.drw _ _)).trans (Mq.drw _ _)) rfl
      have hT3 := hT2.put hl10 h8
      have d2 := m_draw N (x := nxt x) (o := c) (μ := sj 0 (lN (nxt x)) μ) n1 (by omega) (by omega) (gj_sj _ _ _)
      have d3 := m_draw N (x := nxt (nxt x)) (o := 8) (μ := sj 0 (lN (nxt (nxt x))) (sj 0 (lN (nxt x)) μ)) n2 (by omega) (by omega) (gj_sj _ _ _)
      have e13 : (13 : Int32) + nI (nxt (nxt x) / 65536 % c) = nI (13 + nxt (nxt x) / 65536 % c) := nI_add 13 _
      refine ⟨nxt (nxt (nxt x)), _, _, ?_, ?_, n3, ?_, hT3, Chg.sai hA κ (r := 67) (Or.inr (Or.inr (Or.inl ⟨by omega, by omega⟩))) _, (((Mq.drw _ _).trans (Mq.drw _ _)).trans (Mq.drw _ _)).trans (Mq.row (Or.inl rfl) _), ?_, ?_⟩
      · simp -implicitDefEqProofs only [c_nextX N n1, c_nextX N n2, c_drawOf N n2, c_drawOf N n3, bd_s, hs.top, hs.tr, ck_1, bo_s, lt_s9, hnz, ec, e8, inbT hl10 (by decide), clN (show nxt (nxt x) / 65536 % c < 2147483648 by omega)]
      · unfold p12_slipsOne
        rw [show ga 7 (sj 0 (lN (nxt x)) μ) (3 : Int32).toNatClampNeg = nI c from h3, d2, bd_s, show p12_draw N 8 (sj 0 (lN (nxt (nxt x))) (sj 0 (lN (nxt x)) μ)) = _ from d3, bd_s, e13, inbT (show 13 + nxt (nxt x) / 65536 % c < 129 by omega) (by decide), ck_1, lt_s9, bo_s, clN (show 13 + nxt (nxt x) / 65536 % c < 2147483648 by omega)]
      · rw [gj_sa, gj_sj]
      · rw [ga_sa]
        exact Sb.upd _ _ (by omega)
      · exact ga_sa_ne (by decide) _ _
theorem sm_slips (N : Nat) (hN : 20000 ≤ N) (x0 : Nat) : Sm_slips N x0 (Rel x0) := by
  rintro κ μ a1 a2 a3 a4 ⟨A, rfl, hR⟩
  have hs := hR.sh
  obtain ⟨c, h, e, q, nn, hO⟩ := hR.ok
  have hc10 : c ≤ 10 := hO.1
  have he : e ≤ 999 := hO.2.2.2.2.1
  have h3 : ga 7 μ 3 = nI c := hO.2.1
  have h0 : fi κ (A 21) 0 = ga 7 μ 0 := hR.wd.1.1
  unfold p_ErrataRow_slips p12_slips
  simp -implicitDefEqProofs only [hs.top, hs.w20, ck_1, bo_s, bd_s, c_within, m_in N a1 1 10 1 10 (by decide) (by decide), m_in N a2 1 60 1 60 (by decide) (by decide), m_in N a3 0 100 0 100 (by decide) (by decide), m_in N a4 0 1 0 1 (by decide) (by decide), m_isBook, h0, ite10, lt_s9]
  rcases told_or hO with hb | hb
  · simp only [hb, ne10, if_true, if_false]
    by_cases hm : 1 ≤ a1 ∧ a1 ≤ 10
    · by_cases hn : 1 ≤ a2 ∧ a2 ≤ 60
      · by_cases hp : 0 ≤ a3 ∧ a3 ≤ 100
        · by_cases hw : 0 ≤ a4 ∧ a4 ≤ 1
          · rw [if_pos hm, if_pos hm, if_pos hn, if_pos hn, if_pos hp, if_pos hp, if_pos hw, if_pos hw]
            obtain ⟨m, m1, m2, rfl⟩ := in_nat1 10 (by omega) rfl hm
            obtain ⟨n, n1, n2, rfl⟩ := in_nat1 60 (by omega) rfl hn
            obtain ⟨p, p1, rfl⟩ := in_nat 100 (by omega) rfl hp
            have inner : ∀ (kc : Nat → Int32 → Int32 → Int32 → Int32 → Int32 → Int32 → Int32 → Int32 → Cz → Option (Int32 × Cz)) (km : Int32 → Int32 → Int32 → Int32 → Int32 → Int32 → Int32 → Mz → Option (Int32 × Mz)) (x5 x6 y : Int32) (f i : Nat), i ≤ n → n < f + i → ∀ (κ : Cz) (μ1 : Mz) (x : Nat), TR A κ μ1 c h (e + i) → x < 2147483648 → gj 0 μ1 = lN x → Kp μ1 (ga 7 μ) → Sb (ga 7 μ) (ga 7 μ1) → ∃ (w o : Int32) (x' : Nat) (κ' : Cz) (μ' : Mz), b_ErrataRow_slips_95 N kc f (A 0) (nI m) (nI n) (nI p) a4 x5 x6 (nI x) y (nI i) κ = kc (A 0) (nI m) (nI n) (nI p) a4 w o (nI x') (y + 1) κ' ∧ b12_slips_87 N km f (nI m) (nI n) (nI p) a4 x5 x6 y (nI i) μ1 = km (nI m) (nI n) (nI p) a4 w o (y + 1) μ' ∧ x' < 2147483648 ∧ gj 0 μ' = lN x' ∧ Kp μ' (ga 7 μ) ∧ ga 7 μ' = ga 7 μ ∧ Chg A (Lp 66) κ κ' ∧ Mq μ1 μ' := by
              intro kc km x5 x6 y
              refine upL n (fun f i => ∀ (κ : Cz) (μ1 : Mz) (x : Nat), TR A κ μ1 c h (e + i) → x < 2147483648 → gj 0 μ1 = lN x → Kp μ1 (ga 7 μ) → Sb (ga 7 μ) (ga 7 μ1) → ∃ (w o : Int32) (x' : Nat) (κ' : Cz) (μ' : Mz), b_ErrataRow_slips_95 N kc f (A 0) (nI m) (nI n) (nI p) a4 x5 x6 (nI x) y (nI i) κ = kc (A 0) (nI m) (nI n) (nI p) a4 w o (nI x') (y + 1) κ' ∧ b12_slips_87 N km f (nI m) (nI n) (nI p) a4 x5 x6 y (nI i) μ1 = km (nI m) (nI n) (nI p) a4 w o (y + 1) μ' ∧ x' < 2147483648 ∧ gj 0 μ' = lN x' ∧ Kp μ' (ga 7 μ) ∧ ga 7 μ' = ga 7 μ ∧ Chg A (Lp 66) κ κ' ∧ Mq μ1 μ') ?_ ?_
              · intro f κ μ1 x hT hx hg hK sb
                have hs := hT.1
                obtain ⟨-, hB1, hS1, hO1, -⟩ := hT
                have hc1 : ga 7 μ1 3 = nI c := hO1.2.1
                have eb : p12_bits N (sWrong (ga 7 μ1) c) = some (bcI (sWrong (ga 7 μ1) c)) := m_bits N (by omega) _ hc10
                have elb := m_back N (by omega) hK sb
                refine ⟨x5 + bcI (sWrong (ga 7 μ1) c), x6 + ga 7 μ1 12, x, κ, sa 7 (ga 7 μ) μ1, ?_, ?_, hx, hg, hK.mq (ga_sa_ne (by decide) _ _), ga_sa _ _ _, Chg.refl _ _ _, Mq.row (Or.inl rfl) _⟩
                · rw [b_ErrataRow_slips_95, if_pos (nI_le (Nat.le_refl n) (by omega))]
                  simp -implicitDefEqProofs only [hs.top, hs.pr, hs.tr, ck_1, bo_s, bd_s, lt_s9, c_howManyWrong N (by omega) hs hs.st66 hB1 hS1 hc1 hc10, hS1.2.2.1]
                · rw [b12_slips_87, if_pos (nI_le (Nat.le_refl n) (by omega)), m_wrong N (by omega) μ1 hc1 hc10, bd_s, eb, bo_s, lt_s9, lt_s9, elb, bo_s, lt_s9]
                  rfl
              · intro f i hi ih κ μ1 x hT hx hg hK sb
                have hs := hT.1
                obtain ⟨x1, κ1, μ2, q1, q2, q3, q4, hT1, g1, mq1, sb1, h9⟩ := slip_both N hN (p := p) hT hx hg (fun r15 μ15 => lt (nI i + 1) (fun v16 => b12_slips_87 N km f (nI m) (nI n) (nI p) a4 x5 x6 y v16 μ15))
                have hs1 := hT1.1
                obtain ⟨mm, κ3, μ3, e1, e2, hT3, g3, mc3, sb3, -⟩ := tr_pass N (by omega) hT1 (by omega)
                have hg3 : gj 0 μ3 = lN x1 := (mc3.2.2 0).trans q4
                obtain ⟨w, o, x', κ', μ', r1, r2, r3, r4, r5, r6, r7, r8⟩ := ih κ3 μ3 x1 hT3 q3 hg3 ((hK.mq h9).mc mc3) ((sb.trans sb1).trans sb3)
                refine ⟨w, o, x', κ', μ', ?_, ?_, r3, r4, r5, r6, (g1.trans g3).trans r7, (mq1.trans mc3.mq).trans r8⟩
                · rw [b_ErrataRow_slips_95, if_neg (nI_ge hi (by omega))]
                  simp -implicitDefEqProofs only [hs.top, ck_1, q1, bd_s, hs1.top, hs1.pr, bo_s, e1, lt_s9, nI_1]
                  exact r1
                · rw [b12_slips_87, if_neg (nI_ge hi (by omega))]
                  refine q2.trans ?_
                  rw [e2, bd_s, lt_s9, nI_1]
                  exact r2
            have outer := upL m (fun f i => ∀ (κ : Cz) (μ1 : Mz) (x : Nat) (x5 x6 : Int32), RelA A κ μ1 → x < 2147483648 → gj 0 μ1 = lN x → Kp μ1 (ga 7 μ) → ga 7 μ1 = ga 7 μ → ∃ (r : Int32) (κ' : Cz) (μ' : Mz), b_ErrataRow_slips_75 N f (A 0) (nI m) (nI n) (nI p) a4 x5 x6 (nI x) (nI i) κ = some (r, κ') ∧ b12_slips_78 N f (nI m) (nI n) (nI p) a4 x5 x6 (nI i) μ1 = some (r, μ') ∧ RelA A κ' μ') (by
              intro f κ μ1 x x5 x6 hR1 hx hg hK h7
              rw [b_ErrataRow_slips_75, b12_slips_78, if_pos (nI_le (Nat.le_refl m) (by omega)), if_pos (nI_le (Nat.le_refl m) (by omega))]
              by_cases z : a4 = 0
              · rw [if_pos z, if_pos z]; exact ⟨_, κ, μ1, rfl, rfl, hR1⟩
              · rw [if_neg z, if_neg z]; exact ⟨_, κ, μ1, rfl, rfl, hR1⟩) (by
              intro f i hi ih κ μ1 x x5 x6 hR1 hx hg hK h7
              have hs1 := hR1.sh
              obtain ⟨κ1, e1, g1, tr1⟩ := q_open N hR1 (by rw [h7]; exact hO) (by rw [h7]; exact hb)
              have hT1 := tr1 μ1 (Mq.refl μ1) rfl
              obtain ⟨w, o, x', κ', μ', r1, r2, r3, r4, r5, r6, r7, r8⟩ := inner (b_ErrataRow_slips_75 N f) (b12_slips_78 N f) x5 x6 (nI i) N 0 (by omega) (by omega) κ1 μ1 x hT1 hx hg hK (by rw [h7]; exact Sb.refl _)
              rw [nI_0, nI_1] at r1 r2
              have hR2 : RelA A κ' μ' := q_close hR1 (g1.trans (r7.ch.mono Dc_Lp)) r8 (r6.trans h7.symm)
              rw [b_ErrataRow_slips_75, b12_slips_78, if_neg (nI_ge hi (by omega)), if_neg (nI_ge hi (by omega)), r2]
              simp -implicitDefEqProofs only [hs1.top, hs1.w20, ck_1, bo_s, e1, r1]
              exact ih κ' μ' x' w o hR2 r3 r4 r5 r6) N 0 (by omega) (by omega)
            obtain ⟨x, hx, ex⟩ := hR.xx
            have h4 : fi κ (A 20) 4 = nI x := hR.wd.2.2.2.2.2.trans ex
            have m1' : Mq μ (sa 9 (kpF (ga 7 μ) (ga 9 μ) 33) (sj 0 (lN x) μ)) := (Mq.drw 0 _).trans (Mq.row (by unfold Rq; omega) _)
            have h71 : ga 7 (sa 9 (kpF (ga 7 μ) (ga 9 μ) 33) (sj 0 (lN x) μ)) = ga 7 μ := ga_sa_ne (by decide) _ _
            have hR1 : RelA A κ (sa 9 (kpF (ga 7 μ) (ga 9 μ) 33) (sj 0 (lN x) μ)) := q_close hR (Ch.refl _ _ _) m1' h71
            have hK1 : Kp (sa 9 (kpF (ga 7 μ) (ga 9 μ) 33) (sj 0 (lN x) μ)) (ga 7 μ) := by
              intro k hk
              rw [ga_sa]
              exact if_pos hk
            obtain ⟨r, κ', μ', o1, o2, o3⟩ := outer κ _ x 0 0 hR1 (by omega) (gj_sj _ _ _) hK1 h71
            rw [nI_0] at o1 o2
            rw [h4, ex, nI_l (show x < 2 ^ 31 by omega), m_keeps N (by omega)]
            exact ⟨r, κ', μ', o1, o2, A, rfl, o3⟩
          · rw [if_pos hm, if_pos hm, if_pos hn, if_pos hn, if_pos hp, if_pos hp, if_neg hw, if_neg hw]
            exact ⟨-1, κ, μ, rfl, rfl, A, rfl, hR⟩
        · rw [if_pos hm, if_pos hm, if_pos hn, if_pos hn, if_neg hp, if_neg hp]
          exact ⟨-1, κ, μ, rfl, rfl, A, rfl, hR⟩
      · rw [if_pos hm, if_pos hm, if_neg hn, if_neg hn]
        exact ⟨-1, κ, μ, rfl, rfl, A, rfl, hR⟩
    · rw [if_neg hm, if_neg hm]
      exact ⟨-1, κ, μ, rfl, rfl, A, rfl, hR⟩
  · simp only [hb, ne01, if_true, if_false]
    exact ⟨-1, κ, μ, rfl, rfl, A, rfl, hR⟩
