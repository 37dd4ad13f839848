/-! leftOff, undo -/
theorem Mq.s13 {μ μ1 : Mz} {v : Int32} (h : Mq (si 13 v μ) μ1) (w : Int32) : Mq (si 13 w μ) (si 13 w μ1) := by
  refine ⟨fun k hk => ?_, fun k hk => ?_⟩
  · by_cases z : k = 13
    · subst z; rw [gi_si, gi_si]
    · rw [gi_si_ne z, gi_si_ne z, h.1 k hk, gi_si_ne z]
  · exact h.2 k hk
/-- by the habit v left off -/
theorem lo_both (N : Nat) (hN : 20000 ≤ N) {A : Nat → Nat} {c h e q nn n : Nat} (hn : n ≤ 1000) {κ : Cz} {μ : Mz} {S : Nat → Int32} (hR : RelA A κ (si 13 (-1) μ)) (h7 : ga 7 μ = S) (hK : Kp μ S) (hO : OkV S c h e q nn) (hb : S 0 = 1) {v : Int32} (hv : h = 0 → v = -1) : ∃ (κ0 : Cz) (r : Nat) (κ1 : Cz) (μ1 : Mz), p_ErrataRow_startFrom N (A 0) (A 29) κ = some κ0 ∧ Sh κ0 A ∧ b_ErrataRow_wrongAhead_29 N (A 0) (nI n) (sfi (A 40) 3 v κ0) = some (nI r, κ1) ∧ p12_wrongIn N (nI n) (si 13 v μ) = some (nI r, μ1) ∧ r < 11 ∧ RelA A κ1 (si 13 (-1) μ1) ∧ ga 7 μ1 = S ∧ Kp μ1 S := by
  have hs := hR.sh
  have hA := hs.inj
  have he : e ≤ 999 := hO.2.2.2.2.1
  have hw : St κ A 29 S := by
    have := hR.wd.2.2.1
    rw [ga_si, h7] at this
    exact this
  obtain ⟨κ0, e0, g0, s0, f0, rf⟩ := c_start N hR (Or.inl rfl) hw
  have g4 : Chg A (fun r => r = 40) κ0 (sfi (A 40) 3 v κ0) := Chg.sfi (L := fun r => r = 40) hA κ0 (r := 40) rfl _ _
  have hs0 := hs.ch g0
  have h7b : ga 7 (si 13 v μ) = S := h7
  have gg : Ch A Dc κ (sfi (A 40) 3 v κ0) := (g0.mono Ds_Dc).trans (g4.ch.mono (fun r z => by unfold Dc; omega))
  have hT : TR A (sfi (A 40) 3 v κ0) (si 13 v μ) c h e := by
    refine TR.mk hR gg ?_ ?_ ?_ ?_ ?_ ?_
    · rw [h7b]; exact s0.chg g4 (fun r z1 z2 z3 => by omega)
    · exact Sb.refl _
    · rw [h7b]; exact hO.oks hb
    · refine (rf (si 13 v μ) ?_ rfl rfl rfl).chg g4 (fun r z1 z2 z3 => by omega) rfl rfl rfl rfl
      rw [gi_si_ne (by decide), gi_si_ne (by decide)]
    · rw [fi_fi, if_pos ⟨rfl, rfl⟩, gi_si]
    · intro z; rw [gi_si]; exact hv z
  obtain ⟨r, κ1, μ1, e1, e2, hr, g1, m1, h71, hK1⟩ := wa_both N hN hn (by omega) hT (hK.mq (ga_si _ _ _ _)) (by rw [h7b]; exact Sb.refl _)
  refine ⟨κ0, r, κ1, μ1, e0, hs0, e1, e2, hr, ?_, h71, hK1⟩
  exact q_close hR (gg.trans (g1.ch.mono Dc_Lp)) (m1.s13 (-1)) (by rw [ga_si, ga_si, h71, h7])
theorem sm_leftOff (N : Nat) (hN : 20000 ≤ N) (x0 : Nat) : Sm_leftOff N x0 (Rel x0) := by
  rintro κ μ a1 a2 ⟨A, rfl, hR⟩
  have hs := hR.sh
  obtain ⟨c, h, e, q, nn, hO⟩ := hR.ok
  have h12 : h ≤ 12 := hO.2.2.1
  have h2 : ga 7 μ 2 = nI h := hO.2.2.2.1
  have h0 : fi κ (A 21) 0 = ga 7 μ 0 := hR.wd.1.1
  unfold p_ErrataRow_leftOff p12_leftOff
  simp -implicitDefEqProofs only [hs.top, hs.w20, ck_1, bo_s, bd_s, c_within, m_in N a1 1 40 1 40 (by decide) (by decide), m_in N a2 0 1 0 1 (by decide) (by decide), m_isBook, h0, ite10]
  rcases told_or hO with hb | hb
  · simp only [hb, ne10, if_true, if_false]
    by_cases hn : 1 ≤ a1 ∧ a1 ≤ 40
    · by_cases hw : 0 ≤ a2 ∧ a2 ≤ 1
      · rw [if_pos hn, if_pos hn, if_pos hw, if_pos hw]
        obtain ⟨n, n1, n2, rfl⟩ := in_nat1 40 (by omega) rfl hn
        have step : ∀ (κ : Cz) (μ1 : Mz) (v : Int32), RelA A κ (si 13 (-1) μ1) → ga 7 μ1 = ga 7 μ → Kp μ1 (ga 7 μ) → (h = 0 → v = -1) → ∃ (r : Nat) (κ1 : Cz) (μ2 : Mz), (∀ (fu : Nat) (b f : Int32), v < nI h → b_ErrataRow_leftOff_44 N (fu + 1) (A 0) (nI n) a2 b f v κ = if f ≤ nI r then b_ErrataRow_leftOff_44 N fu (A 0) (nI n) a2 b f (v + 1) κ1 else b_ErrataRow_leftOff_44 N fu (A 0) (nI n) a2 v (nI r) (v + 1) κ1) ∧ p12_wrongIn N (nI n) (si 13 v μ1) = some (nI r, μ2) ∧ r < 11 ∧ RelA A κ1 (si 13 (-1) μ2) ∧ ga 7 μ2 = ga 7 μ ∧ Kp μ2 (ga 7 μ) := by
          intro κ μ1 v hR1 h71 hK1 hv
          obtain ⟨κ0, r, κ1, μ2, e0, hs0, e1, e2, hr, hR2, h72, hK2⟩ := lo_both N hN (n := n) (by omega) hR1 h71 hK1 hO hb hv
          have hs1 := hR1.sh
          have hs2 := hR2.sh
          refine ⟨r, κ1, μ2, fun fu b f hlt => ?_, e2, hr, hR2, h72, hK2⟩
          have hh1 : fi κ (A 21) 3 = nI h := by
            rw [hR1.wd.1.2.2.2.1, ga_si, h71]; exact h2
          rw [b_ErrataRow_leftOff_44]
          unfold b_ErrataRow_wrongAhead_29 at e1
          simp -implicitDefEqProofs only [isK_fi, hs0.top, ck_1] at e1
          simp -implicitDefEqProofs only [hs1.top, hs1.w20, ck_1, bo_s, hh1, e0, hs0.top, hs0.pr, lt_s9]
          rw [if_neg (Int32.not_le.mpr hlt)]
          cases hg : p_ErrataRow_goOn N (A 0) (nI n) (sfi (A 40) 3 v κ0) with
          | none => rw [hg] at e1; exact nomatch e1
          | some κ5 =>
            rw [hg, bo_s] at e1
            rw [bo_s]
            cases hk5 : isK κ5 (A 0) 11 with
            | false => rw [hk5] at e1; exact nomatch e1
            | true =>
              rw [hk5, ck_1] at e1
              rw [ck_1]
              cases hf5 : fr κ5 (A 0) 10 with
              | none => rw [hf5] at e1; exact nomatch e1
              | some o1 =>
                rw [hf5, bo_s] at e1
                rw [bo_s]
                cases hf6 : fr κ5 (A 0) 12 with
                | none => rw [hf6] at e1; exact nomatch e1
                | some o2 =>
                  rw [hf6, bo_s] at e1
                  rw [bo_s]
                  cases hk6 : isK κ5 o1 4 with
                  | false => rw [hk6] at e1; exact nomatch e1
                  | true =>
                    rw [hk6, ck_1, bd_id] at e1
                    rw [ck_1, e1, bd_s]
        have L := upL h (fun fu i => ∀ (fm : Nat) (κ : Cz) (μ1 : Mz) (b f : Int32), h < fm + i → RelA A κ (si 13 (-1) μ1) → ga 7 μ1 = ga 7 μ → Kp μ1 (ga 7 μ) → ∃ (r : Int32) (κ1 : Cz) (μ2 : Mz), b_ErrataRow_leftOff_44 N fu (A 0) (nI n) a2 b f (nI i) κ = some (r, κ1) ∧ b12_leftOff_48 N fm (nI n) a2 b f (nI i) μ1 = some (r, μ2) ∧ RelA A κ1 μ2) (by
          intro fu fm κ μ1 b f hfm hR1 h71 hK1
          obtain ⟨fm, rfl⟩ : ∃ m, fm = m + 1 := ⟨fm - 1, by omega⟩
          have hs1 := hR1.sh
          have hh1 : fi κ (A 21) 3 = nI h := by
            rw [hR1.wd.1.2.2.2.1, ga_si, h71]; exact h2
          have h21 : ga 7 μ1 2 = nI h := by rw [h71]; exact h2
          rw [b_ErrataRow_leftOff_44, b12_leftOff_48, show ga 7 μ1 (2 : Int32).toNatClampNeg = nI h from h21]
          simp -implicitDefEqProofs only [hs1.top, hs1.w20, ck_1, bo_s, hh1, lt_s9]
          rw [if_pos (nI_le (Nat.le_refl h) (by omega)), if_pos (nI_le (Nat.le_refl h) (by omega))]
          by_cases z : a2 = 0
          · rw [if_pos z, if_pos z]
            exact ⟨_, κ, _, rfl, rfl, hR1⟩
          · rw [if_neg z, if_neg z]
            exact ⟨_, κ, _, rfl, rfl, hR1⟩) (by
          intro fu i hi ih fm κ μ1 b f hfm hR1 h71 hK1
          obtain ⟨fm, rfl⟩ : ∃ m, fm = m + 1 := ⟨fm - 1, by omega⟩
          obtain ⟨r, κ2, μ2, e1, e2, hr, hR2, h72, hK2⟩ := step κ μ1 (nI i) hR1 h71 hK1 (fun z => by omega)
          have h21 : ga 7 μ1 2 = nI h := by rw [h71]; exact h2
          rw [e1 fu b f (nI_lt hi (by omega)), b12_leftOff_48, show ga 7 μ1 (2 : Int32).toNatClampNeg = nI h from h21, if_neg (nI_ge hi (by omega)), lt_s9, e2, bd_s, nI_1]
          by_cases z : nI r < f
          · rw [if_pos z, if_neg (Int32.not_le.mpr z), lt_s9]
            exact ih fm κ2 μ2 (nI i) (nI r) (by omega) hR2 h72 hK2
          · rw [if_neg z, if_pos (Int32.not_lt.mp z), lt_s9]
            exact ih fm κ2 μ2 b f (by omega) hR2 h72 hK2)
        -- begun
        have h71 : ga 7 (sa 9 (kpF (ga 7 μ) (ga 9 μ) 33) μ) = ga 7 μ := ga_sa_ne (by decide) _ _
        have m1 : Mq μ (sa 9 (kpF (ga 7 μ) (ga 9 μ) 33) μ) := Mq.row (by unfold Rq; omega) _
        have e13 : si 13 (-1) (sa 9 (kpF (ga 7 μ) (ga 9 μ) 33) μ) = sa 9 (kpF (ga 7 μ) (ga 9 μ) 33) μ := by
          have := si_gi 13 (sa 9 (kpF (ga 7 μ) (ga 9 μ) 33) μ)
          rw [gi_sa, hR.lf] at this
          exact this
        have hR1 : RelA A κ (si 13 (-1) (sa 9 (kpF (ga 7 μ) (ga 9 μ) 33) μ)) := by
          rw [e13]; exact q_close hR (Ch.refl _ _ _) m1 h71
        have hK1 : Kp (sa 9 (kpF (ga 7 μ) (ga 9 μ) 33) μ) (ga 7 μ) := by
          intro k hk
          rw [ga_sa]
          exact if_pos hk
        obtain ⟨r, κ2, μ2, e1, e2, hr, hR2, h72, hK2⟩ := step κ _ (-1) hR1 h71 hK1 (fun _ => rfl)
        rw [e13] at e2
        obtain ⟨f, hf⟩ : ∃ f, N = f + 1 := ⟨N - 1, by omega⟩
        have e1' := e1 f (-1) 11 (Int32.lt_of_lt_of_le (show (-1 : Int32) < 0 by decide) (nI_pos' (by omega)))
        rw [if_neg (show ¬ (11 : Int32) ≤ nI r from nI_ge (b := 11) hr (by omega)), show (-1 : Int32) + 1 = nI 0 by decide] at e1'
        rw [m_keeps N (by omega) μ, bo_s, e2, bd_s]
        obtain ⟨r', κ', μ', q1, q2, q3⟩ := L f 0 (by omega) (by omega) N κ2 μ2 (-1) (nI r) (by omega) hR2 h72 hK2
        rw [nI_0] at q2
        have eq1 : b_ErrataRow_leftOff_44 N N (A 0) (nI n) a2 (-1) 11 (-1) κ = some (r', κ') := by
          have : b_ErrataRow_leftOff_44 N N (A 0) (nI n) a2 (-1) 11 (-1) κ = b_ErrataRow_leftOff_44 N (f + 1) (A 0) (nI n) a2 (-1) 11 (-1) κ := by rw [← hf]
          rw [this, e1', q1]
        exact ⟨r', κ', μ', eq1, q2, A, rfl, q3⟩
      · rw [if_pos hn, if_pos hn, if_neg hw, if_neg hw]
        exact ⟨-2, κ, μ, rfl, rfl, A, rfl, hR⟩
    · rw [if_neg hn, if_neg hn]
      exact ⟨-2, κ, μ, rfl, rfl, A, rfl, hR⟩
  · simp only [hb, ne01, if_true, if_false]
    exact ⟨-2, κ, μ, rfl, rfl, A, rfl, hR⟩
theorem m_undo21 (N : Nat) (hN : 20000 ≤ N) (μ : Mz) {u : Nat} (hu : gi 16 μ = nI u) (hu2 : u < 20) : b12_undo_21 N N 0 μ = some (nI u, sa 7 (lbF (ga 7 μ) (fun k => ga 8 μ (33 * u + k)) 33) μ) := by
  have L := upL 33 (fun n i => b12_undo_21 N n (nI i) (sa 7 (lbF (ga 7 μ) (fun k => ga 8 μ (33 * u + k)) i) μ) = some (nI u, sa 7 (lbF (ga 7 μ) (fun k => ga 8 μ (33 * u + k)) 33) μ)) (by
    intro n
    show b12_undo_21 N (n + 1) (nI 33) (sa 7 (lbF (ga 7 μ) (fun k => ga 8 μ (33 * u + k)) 33) μ) = _
    rw [b12_undo_21, if_pos (show (33 : Int32) ≤ nI 33 from nI_le (a := 33) (b := 33) (by omega) (by omega)), gi_sa, hu]) (by
    intro n i hi ih
    show b12_undo_21 N (n + 1) (nI i) (sa 7 (lbF (ga 7 μ) (fun k => ga 8 μ (33 * u + k)) i) μ) = _
    have e33 : (33 : Int32) * nI u + nI i = nI (33 * u + i) := by rw [show (33 : Int32) = nI 33 from rfl, pk_mul, nI_add]
    have es := lbF_s (ga 7 μ) (fun k => ga 8 μ (33 * u + k)) i
    rw [b12_undo_21, gi_sa, hu, e33, if_neg (show ¬ (33 : Int32) ≤ nI i from nI_ge (b := 33) hi (by omega)), show (10 : Int32) = nI 10 from rfl, nI_add]
    simp only [lt_s9, ck_1, inbT (show 10 + i < 129 by omega) (by decide), inbT (show 33 * u + i < 660 by omega) (by decide), clN (show 10 + i < 2147483648 by omega), clN (show 33 * u + i < 2147483648 by omega), ga_sa, ga_sa_ne (show 8 ≠ 7 by decide), sa_sa, nI_1]
    rw [es]
    exact ih) N 0 (by omega) (by omega)
  have e : sa 7 (lbF (ga 7 μ) (fun k => ga 8 μ (33 * u + k)) 0) μ = μ := by
    have : lbF (ga 7 μ) (fun k => ga 8 μ (33 * u + k)) 0 = ga 7 μ := by
      funext k
      unfold lbF
      rw [if_neg (by omega)]
    rw [this, sa_ga]
  rw [e, nI_0] at L
  exact L
theorem sm_undo (N : Nat) (hN : 20000 ≤ N) (x0 : Nat) : Sm_undo N x0 (Rel x0) := by
  rintro κ μ ⟨A, rfl, hR⟩
  have hs := hR.sh
  have hA := hs.inj
  obtain ⟨u, nx, hu, hnx, y0, y1, y2, y3⟩ := hR.hy
  unfold p_ErrataRow_undo p12_undo p_History_takeBack
  simp -implicitDefEqProofs only [hs.top, hs.w20, hs.hi, ck_1, bo_s, y0, y1, y2, lt_s9]
  by_cases hz : u = 0
  · subst hz
    rw [if_pos (by decide), if_pos (by decide), bd_s, if_pos rfl]
    exact ⟨-1, κ, μ, rfl, rfl, A, rfl, hR⟩
  · obtain ⟨v, rfl⟩ : ∃ v, u = v + 1 := ⟨u - 1, by omega⟩
    have e20 : (nI nx + 20 - 1) - (nI nx + 20 - 1) / 20 * 20 = nI ((nx + 19) % 20) := by
      rw [show nI nx + 20 = nI (nx + 19 + 1) from nI_add nx 20, sub1]
      exact pk_rem (d := 20) (by omega) (by omega) (by omega)
    have nz0 : ¬ nI (v + 1) = 0 := nI_ne0 (by omega) (by omega)
    have es : hSl nx (v + 1) v = (nx + 19) % 20 := by unfold hSl; omega
    obtain ⟨k1, k2, k3⟩ := y3 v (by omega)
    rw [es] at k1 k2
    have hl20 : (nx + 19) % 20 < 20 := Nat.mod_lt _ (by decide)
    generalize hnn : (nx + 19) % 20 = nn at *
    have sst : sSt κ A (100 + 4 * nn) := by
      rcases hs.hs nn hl20 with z | z
      · rw [k1] at z; exact absurd z (fun z => (nomatch z))
      · exact z.2
    have g1 : Chg A (fun r => r = 38) κ (sfi (A 38) 0 (nI v) (sfi (A 38) 1 (nI nn) κ)) := (Chg.sfi (L := fun r => r = 38) hA κ (r := 38) rfl _ _).trans (Chg.sfi (L := fun r => r = 38) hA _ (r := 38) rfl _ _)
    have hs1 := hs.chg g1
    obtain ⟨κ2, e2, s2, g2⟩ := c_copySt N hA hs1.st29 (sst.chg g1) (by omega) (k2.chg g1 (fun r z1 z2 z3 => by omega))
    have hs2 := hs1.chg g2
    have f2 : fi κ2 (A 38) 0 = nI v := by
      rw [g2.fi (by unfold Ls; omega), fi_fi, if_pos ⟨rfl, rfl⟩]
    rw [if_neg nz0, if_neg nz0, e20]
    have mu := m_undo21 N hN (si 16 (nI v) μ) (u := v) (gi_si _ _ _) (by omega)
    simp -implicitDefEqProofs only [fi_fi, (show (0 = 1) = False by decide), and_false, if_false, y0, sub1, mu, fr_fi, isK_fi, ln_fi, hs.hi, ck_1, bo_s, if_true, and_self, (show (1 = 0) = False by decide), inbT hl20 (by decide), clN (show nn < 2147483648 by omega), aq_fi, k1, oc_s, hs.w20, e2, bd_s, ne10, hs2.top, hs2.hi, f2]
    refine ⟨_, κ2, _, rfl, rfl, A, rfl, ?_⟩
    rw [ga_si, ga_si]
    have sT : ∀ j, 10 ≤ j → j < 43 → hsS μ v j = lbF (ga 7 μ) (fun k => ga 8 μ (33 * v + k)) 33 j := by
      intro j h1 h2
      unfold lbF hsS
      rw [if_pos (by omega)]
    have hSb : Sb (ga 7 μ) (lbF (ga 7 μ) (fun k => ga 8 μ (33 * v + k)) 33) := by
      intro j hj
      unfold lbF
      rw [if_neg (by omega)]
    have gg : Chg A (fun r => r = 38 ∨ (29 ≤ r ∧ r ≤ 32)) κ κ2 := (g1.mono (fun r z => Or.inl z)).trans (g2.mono (fun r z => by unfold Ls at z; omega))
    have hw := hR.wd
    refine hR.gen gg.ch (fun r z => by omega) (by rw [gi_sa, gi_si_ne (by decide)]) (by rw [gi_sa, gi_si_ne (by decide)]) (by rw [ga_sa_ne (by decide), ga_si]) (by rw [ga_sa_ne (by decide), ga_si]) (by rw [ga_sa_ne (by decide), ga_si]) (by rw [ga_sa_ne (by decide), ga_si]) (by rw [ga_sa_ne (by decide), ga_si]) (by rw [ga_sa_ne (by decide), ga_si]) (by rw [ga_sa_ne (by decide), ga_si]) (by rw [gg.fi (by omega)]) (hR.tp.ch (by rw [gg.fi (by omega)]) (gg.ai (by omega)) (by rw [gi_sa, gi_si_ne (by decide)]) (by rw [ga_sa_ne (by decide), ga_si])) ⟨?_, ?_, ?_, ?_, ?_, ?_⟩ ?_ ?_ ?_ ?_
    · rw [ga_sa]; exact (hw.1.chg gg (fun r z1 z2 z3 => by omega)).congr (fun j hj => (hSb j hj).symm)
    · rw [ga_sa]; exact (hw.2.1.chg gg (fun r z1 z2 z3 => by omega)).congr (fun j z1 z2 => (begS_b hSb j z1 z2).symm)
    · rw [ga_sa]; exact s2.congr sT
    · rw [ga_sa]
      obtain ⟨n1, n2⟩ := hw.2.2.2.1.chg gg (fun r z1 z2 z3 => by omega)
      refine ⟨n1.trans (hSb _ (by omega)).symm, fun i hi h10 => ?_⟩
      rw [hSb _ (by omega)] at hi
      rw [hSb _ (by omega), hSb _ (by omega), hSb _ (by omega)]
      exact n2 i hi h10
    · rw [gg.fi (by omega), gi_sa, gi_si_ne (by decide)]; exact hw.2.2.2.2.1
    · rw [gg.fi (by omega), gi_sa, gi_si_ne (by decide)]; exact hw.2.2.2.2.2
    · rw [ga_sa]; exact hR.ok.now hSb (k3.congr sT)
    · rw [gi_sa, gi_sa, gi_si_ne (by decide), gi_si_ne (by decide)]; exact hR.fo
    · rw [gi_sa, gi_si_ne (by decide)]; exact hR.xx
    · refine ⟨v, nn, by omega, hl20, f2, ?_, by rw [gi_sa, gi_si], fun j hj => ?_⟩
      · rw [g2.fi (by unfold Ls; omega), fi_fi, if_neg (by simp), fi_fi, if_pos ⟨rfl, rfl⟩]
      · have e3 : hSl nn v j = hSl nx (v + 1) j := by unfold hSl; omega
        have hl : hSl nx (v + 1) j < 20 := Nat.mod_lt _ (by decide)
        obtain ⟨w1, w2, w3⟩ := y3 j (by omega)
        rw [e3, gg.aq]
        have eh : hsS (sa 7 (lbF (ga 7 μ) (fun k => ga 8 μ (33 * v + k)) 33) (si 16 (nI v) μ)) j = hsS μ j := hsS_c (by rw [ga_sa_ne (by decide), ga_si]) j
        rw [eh]
        exact ⟨w1, w2.chg gg (fun r z1 z2 z3 => by omega), w3⟩
