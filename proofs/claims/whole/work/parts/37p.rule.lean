/-! rule -/
theorem sRu.nm {κ : Cz} {Q P : Nat → Nat} {b d nc k : Nat} (s : sRu κ Q b nc k) (e : ∀ i, i < 5 → P (d + i) = Q (b + i)) : sRu κ P d nc k := by
  have e0 : P d = Q b := e 0 (by omega)
  simp only [sRu, e0, e 1 (by omega), e 2 (by omega), e 3 (by omega), e 4 (by omega)]
  exact s
theorem sm_rule (N : Nat) (hN : 20000 ≤ N) (x0 : Nat) : Sm_rule N x0 (Rel x0) := by
  rintro κ μ ⟨A, rfl, hR⟩
  have hs := hR.sh
  have hA := hs.inj
  obtain ⟨R, r6, f6, g1, rls⟩ := hR.rl
  by_cases h6 : R = 6
  · subst h6
    refine ⟨-1, μ, ?_, ?_⟩
    · unfold p12_rule
      rw [g1, if_pos (show nI 6 = 6 from rfl)]
    · unfold w_ErrataRow_rule
      rw [show isK κ (A 0) 11 = true from hs.top.1, wck_1, f6, wif_n (show ¬ nI 6 < (6 : Int32) by decide)]
      exact ⟨rfl, A, rfl, hR⟩
  · have hR6 : R < 6 := by omega
    obtain ⟨B, t, tC, tM, f1⟩ := tp_bytes hs hR.tp
    obtain ⟨n, κ1, e1, T1, c1⟩ := c_split N hN hs tC
    have hs1 := hs.chg c1
    have g2 : Chg A (fun r => r = 0) κ1 (sfi (A 0) 1 0 κ1) := Chg.sfi (L := fun r => r = 0) hA κ1 (r := 0) rfl _ _
    have hs2 := hs1.chg g2
    have T2 := T1.chg g2 (fun r z1 z2 z3 => by omega)
    have c3 : Chg A (fun r => r = 15) (sfi (A 0) 1 0 κ1) (sfi (A 15) 6 0 (sfi (A 15) 5 0 (sfi (A 15) 4 0 (sfi (A 0) 1 0 κ1)))) := ((Chg.sfi (L := fun r => r = 15) hA _ (r := 15) rfl _ _).trans (Chg.sfi (L := fun r => r = 15) hA _ (r := 15) rfl _ _)).trans (Chg.sfi (L := fun r => r = 15) hA _ (r := 15) rfl _ _)
    have hs3 := hs2.chg c3
    have T3 := T2.chg c3 (fun r z1 z2 z3 => by omega)
    have k4 : fi (sfi (A 15) 6 0 (sfi (A 15) 5 0 (sfi (A 15) 4 0 (sfi (A 0) 1 0 κ1)))) (A 15) 4 = 0 := by rw [fi_fi, if_neg (by simp), fi_fi, if_neg (by simp), fi_fi, if_pos ⟨rfl, rfl⟩]
    have k5 : fi (sfi (A 15) 6 0 (sfi (A 15) 5 0 (sfi (A 15) 4 0 (sfi (A 0) 1 0 κ1)))) (A 15) 5 = 0 := by rw [fi_fi, if_neg (by simp), fi_fi, if_pos ⟨rfl, rfl⟩]
    have k6 : fi (sfi (A 15) 6 0 (sfi (A 15) 5 0 (sfi (A 15) 4 0 (sfi (A 0) 1 0 κ1)))) (A 15) 6 = 0 := by rw [fi_fi, if_pos ⟨rfl, rfl⟩]
    have rr : p_RuleReader_readRule N (A 15) (sfi (A 0) 1 0 κ1) = b_RuleReader_readRule_15 N N (A 15) (sfi (A 15) 6 0 (sfi (A 15) 5 0 (sfi (A 15) 4 0 (sfi (A 0) 1 0 κ1)))) := by
      unfold p_RuleReader_readRule
      simp -implicitDefEqProofs only [hs2.rR, ck_1, lt_s9]
    generalize hκ3 : sfi (A 15) 6 0 (sfi (A 15) 5 0 (sfi (A 15) 4 0 (sfi (A 0) 1 0 κ1))) = κ3 at *
    -- the reference, begun
    have MR : ∃ μr, p12_rule N μ = bd (bd (p12_clauseHere N μr) (fun r7 μ7 => b12_readsAll_35 N N r7 μ7)) (fun r4 μ4 => if r4 = 0 then some ((-2) - (gi 3 μ4), μ4) else lt (si 1 ((gi 1 μ4) + 1) μ4) (fun μ5 => some ((gi 1 μ5) - 1, μ5))) ∧ MF IRl JRu μ μr ∧ gi 0 μr = gi 0 μ ∧ gi 2 μr = 0 ∧ gi 3 μr = 0 ∧ gi 5 μr = nI R ∧ gi 6 μr = 0 ∧ gi 8 μr = 0 ∧ ga 0 μr = ga 0 μ ∧ ga 1 μr = ga 1 μ ∧ ga 3 μr = ga 3 μ ∧ ga 2 μr = upd (ga 2 μ) R 0 ∧ ga 4 μr = upd (ga 4 μ) R 0 := by
      refine ⟨si 6 0 (si 3 0 (si 2 0 (si 8 0 (sa 2 (upd (ga 2 μ) R 0) (sa 4 (upd (ga 4 μ) R 0) (si 5 (nI R) μ)))))), ?_, ?_, ?_, ?_, ?_, ?_, ?_, ?_, ?_, ?_, ?_, ?_, ?_⟩
      · unfold p12_rule
        rw [g1, if_neg (show ¬ nI R = 6 from fun z => h6 ((nI_eq (by omega) (by omega)).mp (show nI R = nI 6 from z))), lt_s9]
        unfold p12_readsAll
        simp -implicitDefEqProofs only [gi_sa, gi_si, ga_si, inbT (show R < 6 by omega) (by decide), inbT (show R < 7 by omega) (by decide), clN (show R < 2147483648 by omega), ck_1, lt_s9, ga_sa_ne (show 2 ≠ 4 by decide)]
      · refine (((((MF.si (by unfold IRl; omega) _ _).trans (MF.sa (by unfold JRu; omega) _ _)).trans (MF.sa (by unfold JRu; omega) _ _)).trans (MF.si (by unfold IRl; omega) _ _)).trans (MF.si (by unfold IRl; omega) _ _)).trans ((MF.si (by unfold IRl; omega) _ _).trans (MF.si (by unfold IRl; omega) _ _))
      · rw [gi_si_ne (by decide), gi_si_ne (by decide), gi_si_ne (by decide), gi_si_ne (by decide), gi_sa, gi_sa, gi_si_ne (by decide)]
      · rw [gi_si_ne (by decide), gi_si_ne (by decide), gi_si]
      · rw [gi_si_ne (by decide), gi_si]
      · rw [gi_si_ne (by decide), gi_si_ne (by decide), gi_si_ne (by decide), gi_si_ne (by decide), gi_sa, gi_sa, gi_si]
      · rw [gi_si]
      · rw [gi_si_ne (by decide), gi_si_ne (by decide), gi_si_ne (by decide), gi_si]
      · rw [ga_si, ga_si, ga_si, ga_si, ga_sa_ne (by decide), ga_sa_ne (by decide), ga_si]
      · rw [ga_si, ga_si, ga_si, ga_si, ga_sa_ne (by decide), ga_sa_ne (by decide), ga_si]
      · rw [ga_si, ga_si, ga_si, ga_si, ga_sa_ne (by decide), ga_sa_ne (by decide), ga_si]
      · rw [ga_si, ga_si, ga_si, ga_si, ga_sa]
      · rw [ga_si, ga_si, ga_si, ga_si, ga_sa_ne (by decide), ga_sa]
    obtain ⟨μr, er, Mr, q0, q2, q3, q5, q6, q8, qa0, qa1, qa3, qa2, qa4⟩ := MR
    have hM : RM B t n 0 R 0 (ga 1 μ) (ga 3 μ) (ga 4 μ) (fun _ => 0) (fun _ => 0) [] 0 A κ3 μr := by
      refine ⟨⟨hs3, T3, ⟨tM.1, q0.trans tM.2.1, ?_⟩, q3, 0, by omega, q2, rfl⟩, ⟨hR6, q5, ?_, k4, fun i s hi => absurd hi (by simp), fun j _ => by rw [qa1], k6, q6, by omega, Nat.zero_le _⟩, Nat.zero_le _, by omega, k5, ?_, q8, rfl, rfl, fun i hi => absurd hi (by omega), fun j _ => by rw [qa3], fun j hj => ?_⟩
      · rw [qa0]; exact tM.2.2
      · rw [qa2, upd_at, if_pos rfl]; rfl
      · rw [qa4, upd_at, if_pos rfl]; rfl
      · rw [qa4, upd_at, if_neg hj]
    obtain ⟨r, r1, κ4, μ4, e4, m4, c4, M4, q4, o4⟩ := rl_all N hN 12 0 0 (N - 14) (N - 13) 0 (fun _ => 0) (fun _ => 0) [] κ3 μr (by omega) hM
    rw [show N - 14 + 12 + 2 = N by omega] at e4
    rw [show N - 13 + 12 + 1 = N by omega] at m4
    rw [e4] at rr
    rw [m4, bd_s] at er
    have hs4 := hs3.chg c4
    have C4 : Chg A (fun r => r ≤ 5 ∨ (15 ≤ r ∧ r ≤ 18)) κ κ4 := ((((c1.mono (fun r z => by unfold Lt5 at z; omega)).trans (g2.mono (fun r z => by omega))).trans (c3.mono (fun r z => by omega))).trans (c4.mono (fun r z => by unfold LRu at z; omega)))
    have M04 : MF IRl JRu μ μ4 := Mr.trans (M4.mono (fun k z => by unfold IRu0 IRu at z; unfold IRl; omega) (fun k z => z))
    have n0 : fi κ4 (A 0) 1 = 0 := by
      rw [c4.fi (by unfold LRu; omega), c3.fi (by omega), fi_fi, if_pos ⟨rfl, rfl⟩]
    have n06 : fi κ4 (A 0) 6 = fi κ (A 0) 6 := by
      rw [c4.fi (by unfold LRu; omega), c3.fi (by omega), fi_fi, if_neg (by simp), c1.fi (by unfold Lt5; omega)]
    have g14 : gi 1 μ4 = nI R := (M04.1 1 (by unfold IRl; omega)).trans g1
    have W : ∀ (post : Int32 → Cz → Prop), w_ErrataRow_rule N (A 0) κ post = wif (r = 0) (w_RuleReader_made N (A 15) κ4 (fun r14 κ14 => wbo (r14) (fun o16 => wck (isK κ14 (A 19) 22) (wck (isK κ14 o16 6) (wck (inb (nI R) (ln κ14 (A 19))) (wlt (saq (A 19) (va_up (aq κ14 (A 19)) (nI R).toNatClampNeg (some o16)) κ14) (fun κ20 => wck (isK κ20 (A 0) 11) (wlt ((fi κ20 (A 0) 6) + 1) (fun v22 => wlt (sfi (A 0) 6 v22 κ20) (fun κ23 => post ((fi κ23 (A 0) 6) - 1) κ23)))))))))) (post ((-2) - r) κ4) := by
      intro post
      have x6 : fi κ4 (A 0) 6 = nI R := n06.trans f6
      unfold w_ErrataRow_rule
      rw [show isK κ (A 0) 11 = true from hs.top.1, wck_1, f6, wif_y (show nI R < (6 : Int32) from (nI_ltI (b := 6) (by omega) (by omega)).mpr hR6)]
      simp -implicitDefEqProofs only [hs.top, hs.tk, wck_1, wbo_s, f1, e1, hs1.top, wlt_s, hs2.top, hs2.rR, rr, wbd_s, hs4.top, hs4.rR, x6]
    rcases o4 with ⟨rfl, rfl, c, s, en, cs, v, rq⟩ | ⟨F, F0, F1, rfl, rfl, g3, kp⟩
    · rw [if_neg ne10, lt_s9, gi_si, g14, nI_1, nI_pred] at er
      refine ⟨nI R, _, er, ?_⟩
      rw [W, wif_y rfl]
      have kp := rq.2.2.2.2.2.2.2
      have hR4 := rel_read hR r6 g1 C4 n06 n0 q4 M04 kp
      refine w_madeI N hs4 rq.1.2.2.2.1 rq.2.1 rq.2.2.2.1 rq.2.2.1 (fun κ5 Q sq xn q1 q2' b1 b2 b3 => ?_)
      obtain ⟨P, hP, p1, p2⟩ := newA hA (Lk κ4) (300 + 5 * R) 5 Q q2' q1
      have mem := hR4.mem r6 g14
      have hR5 : RelA P κ5 μ4 := hR4.ext r6 g14 hP xn (fun r hr => p2 r (by
        rcases hr with y | ⟨i, i1, i2, i3, i4⟩ | ⟨k', i1, i2, i3, i4⟩ | ⟨j, i1, i3, i4⟩
        · omega
        · omega
        · omega
        · omega) (mem r hr))
      have sr : sRu κ5 P (300 + 5 * R) cs.length c := sRu.nm sq (fun i hi => by rw [p1 i hi, Nat.zero_add])
      have p0 : P (300 + 5 * R) = Q 0 := p1 0 (by omega)
      have eP : ∀ r, r ≤ 72 → P r = A r := fun r hr => p2 r (by omega) (hs4.mem r hr)
      have hn : RuC κ5 P μ4 R := RuC.new rq sr (fun i hi => by rw [p1 1 (by omega)]; exact b1 i hi) (fun i hi => by rw [p1 2 (by omega)]; exact b2 i hi) (fun i hi => by rw [p1 3 (by omega)]; exact b3 i hi)
      have hF := rel_more hR5 hR6 g14 hn
      have hs5 := hR5.sh
      show wbo (some (Q 0)) _
      rw [wbo_s, ← p0, ← eP 19 (by omega), ← eP 0 (by omega)]
      have w6 : isK κ5 (P (300 + 5 * R)) 6 = true := sr.1
      have f06 : fi κ5 (P 0) 6 = nI R := by
        rw [eP 0 (by omega), (xn.all (hs4.mem 0 (by omega))).2.2.1]
        exact n06.trans f6
      have sh6 : isK (saq (P 19) (va_up (aq κ5 (P 19)) R (some (P (300 + 5 * R)))) κ5) (P 0) 11 = true := hs5.top.1
      have fi6 : fi (saq (P 19) (va_up (aq κ5 (P 19)) R (some (P (300 + 5 * R)))) κ5) (P 0) 6 = nI R := f06
      simp -implicitDefEqProofs only [hs5.top, wck_1, w6, inbT hR6 (by decide), clN (show R < 2147483648 by omega), wlt_s, sh6, fi6, nI_1]
      rw [fi_fi, if_pos ⟨rfl, rfl⟩, nI_pred]
      exact ⟨rfl, P, rfl, hF⟩
    · rw [if_pos rfl, g3] at er
      refine ⟨(-2) - nI F, μ4, er, ?_⟩
      rw [W, wif_n (nI_ne0 F0 F1)]
      exact ⟨rfl, A, rfl, rel_read hR r6 g1 C4 n06 n0 q4 M04 kp⟩
