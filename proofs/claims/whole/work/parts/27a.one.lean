/-! undo, one, leftOff -/
theorem Kp.mq {μ μ1 : Mz} {S : Nat → Int32} (h : Kp μ S) (e : ga 9 μ1 = ga 9 μ) : Kp μ1 S := by
  intro k hk
  rw [e]
  exact h k hk
/-- n editions more: how many are wrong, all laid back -/
theorem wa_both (N : Nat) (hN : 20000 ≤ N) {A : Nat → Nat} {c h e n : Nat} (hn : n ≤ 1000) (he : e ≤ 100000) {κ : Cz} {μ : Mz} {S : Nat → Int32} (hT : TR A κ μ c h e) (hK : Kp μ S) (sb : Sb S (ga 7 μ)) : ∃ (r : Nat) (κ1 : Cz) (μ1 : Mz), b_ErrataRow_wrongAhead_29 N (A 0) (nI n) κ = some (nI r, κ1) ∧ p12_wrongIn N (nI n) μ = some (nI r, μ1) ∧ r < 11 ∧ Chg A (Lp 66) κ κ1 ∧ Mq μ μ1 ∧ ga 7 μ1 = S ∧ Kp μ1 S := by
  have hs := hT.1
  obtain ⟨κ1, μ1, e1, e2, hT1, g1, mc1, sb1, -⟩ := tr_go N hN hn he hT
  have hs1 := hT1.1
  obtain ⟨-, hB1, hS1, hO1, -⟩ := hT1
  have hc1 : ga 7 μ1 3 = nI c := hO1.2.1
  have hc10 : c ≤ 10 := hO1.2.2.1
  obtain ⟨r, hr, er⟩ : ∃ k, k < 11 ∧ bcI (sWrong (ga 7 μ1) c) = nI k := bcI_F _ hc10
  have eb : p12_bits N (sWrong (ga 7 μ1) c) = some (bcI (sWrong (ga 7 μ1) c)) := m_bits N (by omega) _ hc10
  have elb := m_back N (by omega) (hK.mc mc1) (sb.trans sb1)
  refine ⟨r, κ1, sa 7 S μ1, ?_, ?_, hr, g1, mc1.mq.trans (Mq.row (Or.inl rfl) _), ga_sa _ _ _, (hK.mc mc1).mq (ga_sa_ne (by decide) _ _)⟩
  · unfold b_ErrataRow_wrongAhead_29
    simp -implicitDefEqProofs only [hs.top, ck_1, e1, bo_s, hs1.top, hs1.pr, c_howManyWrong N (by omega) hs1 hs1.st66 hB1 hS1 hc1 hc10, bd_s, er]
  · unfold p12_wrongIn
    rw [e2, bo_s, m_wrong N (by omega) μ1 hc1 hc10, bd_s, eb, bo_s, elb, bo_s, er]
/-- a letter on trial is put otherwise -/
theorem TR.put {A : Nat → Nat} {κ : Cz} {μ : Mz} {c h e k v : Nat} (hT : TR A κ μ c h e) (hk : k < 10) (hv : v < 8) : TR A (sai (A 67) (upd (ai κ (A 67)) k (nI v)) κ) (sa 7 (upd (ga 7 μ) (13 + k) (nI v)) μ) c h e := by
  obtain ⟨hs, hB, hS, hO, hF, hl, hl0⟩ := hT
  have hA := hs.inj
  have g : Chg A (fun r => r = 67) κ (sai (A 67) (upd (ai κ (A 67)) k (nI v)) κ) := Chg.sai (L := fun r => r = 67) hA κ (r := 67) rfl _
  have u : ∀ j, j ≠ 13 + k → upd (ga 7 μ) (13 + k) (nI v) j = ga 7 μ j := fun j hj => by rw [upd_at, if_neg hj]
  obtain ⟨h0, h3, hc, h2, h12, h10, he, h9, hp, hvv⟩ := hO
  refine ⟨hs.chg g, ?_, ?_, ?_, ?_, hl, hl0⟩
  · rw [ga_sa]; exact (hB.chg g (fun r z1 z2 z3 => by omega)).congr (fun j hj => (u j (by omega)).symm)
  · rw [ga_sa]; exact St.put (b := 66) hA hS hk _
  · rw [ga_sa]
    refine ⟨(u _ (by omega)).trans h0, (u _ (by omega)).trans h3, hc, (u _ (by omega)).trans h2, h12, (u _ (by omega)).trans h10, he, ⟨by rw [u _ (by omega)]; exact h9.1, fun j hj => by rw [u _ (by omega)]; exact h9.2 j hj⟩, fun j hj => ?_, fun j hj => by rw [u _ (by omega), u _ (by omega)]; exact hvv.1 j hj, fun j hj => by rw [u _ (by omega), u _ (by omega)]; exact hvv.2 j hj⟩
    rw [upd_at]
    split
    · exact ⟨v, hv, rfl⟩
    · exact hp j hj
  · exact hF.chg g (fun r z1 z2 z3 => by omega) rfl (ga_sa_ne (by decide) _ _) (ga_sa_ne (by decide) _ _) (ga_sa_ne (by decide) _ _)
theorem Dc70 (r : Nat) (h : 70 ≤ r ∧ r ≤ 72) : Dc r := by
  unfold Dc
  omega
/-- found -/
def Fnd (κ : Cz) (A : Nat → Nat) (a b c : Int32) : Prop := ai κ (A 70) 0 = a ∧ ai κ (A 70) 1 = b ∧ ai κ (A 70) 2 = c
theorem c_keepFound (N : Nat) {A : Nat → Nat} {κ : Cz} (hs : Sh κ A) (a b c : Int32) : ∃ κ1, p_ErrataRow_keepFound N (A 0) a b c κ = some κ1 ∧ Chg A (fun r => 70 ≤ r ∧ r ≤ 72) κ κ1 ∧ Fnd κ1 A a b c := by
  have hA := hs.inj
  have j0 : inb (0 : Int32) 3 = true := by decide
  have j1 : inb (1 : Int32) 3 = true := by decide
  have j2 : inb (2 : Int32) 3 = true := by decide
  unfold p_ErrataRow_keepFound
  simp -implicitDefEqProofs only [hs.top, ck_1, bo_s, lt_s9, isK_ai, fr_ai, ln_ai, ai_ai, if_true, j0, j1, j2, k0, k1, k2]
  refine ⟨_, rfl, ((Chg.sai (L := fun r => 70 ≤ r ∧ r ≤ 72) hA κ (r := 70) (by omega) _).trans (Chg.sai (L := fun r => 70 ≤ r ∧ r ≤ 72) hA _ (r := 70) (by omega) _)).trans (Chg.sai (L := fun r => 70 ≤ r ∧ r ≤ 72) hA _ (r := 70) (by omega) _), ?_, ?_, ?_⟩
  · simp [ai_ai, upd_at]
  · simp [ai_ai, upd_at]
  · simp [ai_ai, upd_at]
theorem RelA.c70 {A : Nat → Nat} {κ κ1 : Cz} {μ : Mz} (hR : RelA A κ μ) (g : Chg A (fun r => 70 ≤ r ∧ r ≤ 72) κ κ1) : RelA A κ1 μ := hR.ch (g.ch.mono Dc70) (QM.refl μ)
/-- none is put otherwise -/
theorem wn_both (N : Nat) (hN : 20000 ≤ N) {A : Nat → Nat} {c h e q nn n : Nat} (hn : n ≤ 1000) {κ : Cz} {μ : Mz} (hR : RelA A κ μ) (hO : OkV (ga 7 μ) c h e q nn) (hb : ga 7 μ 0 = 1) (hK : Kp μ (ga 7 μ)) (y : Int32) : ∃ (r : Nat) (κ1 : Cz) (μ1 : Mz), p_ErrataRow_wrongAhead N (A 0) (-1) y (nI n) κ = some (nI r, κ1) ∧ p12_wrongIn N (nI n) μ = some (nI r, μ1) ∧ r < 11 ∧ RelA A κ1 μ1 ∧ ga 7 μ1 = ga 7 μ ∧ Kp μ1 (ga 7 μ) ∧ ai κ1 (A 70) = ai κ (A 70) := by
  have hs := hR.sh
  obtain ⟨κ1, e1, g1s, tr1⟩ := q_openS N hR hO hb
  have g1 := g1s.mono Ds_Dc
  have hT1 := tr1 μ (Mq.refl μ) rfl
  have he : e ≤ 999 := hO.2.2.2.2.1
  have hs1 := hT1.1
  obtain ⟨r, κ2, μ2, e2, e3, hr, g2, m2, h7, hK2⟩ := wa_both N hN hn (by omega) hT1 hK (Sb.refl _)
  have gg := g1.trans (g2.ch.mono Dc_Lp)
  refine ⟨r, κ2, μ2, ?_, e3, hr, q_close hR gg m2 h7, h7, hK2, ?_⟩
  · unfold p_ErrataRow_wrongAhead
    simp -implicitDefEqProofs only [hs.top, hs.w20, ck_1, bo_s, bd_s, e1, hs1.top, c_isLetter N hs1, ite10]
    rw [if_neg (fun z => absurd z.1 (by decide)), e2]
  · rw [g2.ai (by unfold Lp; omega)]
    exact g1s.ai (by unfold Ds; omega)
/-- a letter is put otherwise -/
theorem wl_both (N : Nat) (hN : 20000 ≤ N) {A : Nat → Nat} {c h e q nn n k v : Nat} (hn : n ≤ 1000) {κ : Cz} {μ : Mz} (hR : RelA A κ μ) (hO : OkV (ga 7 μ) c h e q nn) (hb : ga 7 μ 0 = 1) (hK : Kp μ (ga 7 μ)) (hk : k < c) (hv : v < 8) : ∃ (r : Nat) (κ1 : Cz) (μ1 : Mz), p_ErrataRow_wrongAhead N (A 0) (nI k) (nI v) (nI n) κ = some (nI r, κ1) ∧ p12_wrongIn N (nI n) (sa 7 (upd (ga 7 μ) (13 + k) (nI v)) μ) = some (nI r, μ1) ∧ r < 11 ∧ RelA A κ1 μ1 ∧ ga 7 μ1 = ga 7 μ ∧ Kp μ1 (ga 7 μ) ∧ ai κ1 (A 70) = ai κ (A 70) := by
  have hs := hR.sh
  have hc10 : c ≤ 10 := hO.1
  have hk10 : k < 10 := by omega
  obtain ⟨κ1, e1, g1s, tr1⟩ := q_openS N hR hO hb
  have g1 := g1s.mono Ds_Dc
  have hT0 := tr1 μ (Mq.refl μ) rfl
  have hT1 := hT0.put hk10 hv
  have he : e ≤ 999 := hO.2.2.2.2.1
  have hs1 := hT0.1
  have hs1' := hT1.1
  have hA := hs.inj
  have mu : Mq μ (sa 7 (upd (ga 7 μ) (13 + k) (nI v)) μ) := Mq.row (Or.inl rfl) _
  obtain ⟨r, κ2, μ2, e2, e3, hr, g2, m2, h7, hK2⟩ := wa_both N hN hn (by omega) hT1 (hK.mq (ga_sa_ne (by decide) _ _)) (by rw [ga_sa]; exact Sb.upd _ _ (by omega))
  have g3 : Chg A (fun r => r = 67) κ1 (sai (A 67) (upd (ai κ1 (A 67)) k (nI v)) κ1) := Chg.sai (L := fun r => r = 67) hA κ1 (r := 67) rfl _
  have gg := (g1.trans (g3.ch.mono (fun r z => by unfold Dc; omega))).trans (g2.ch.mono Dc_Lp)
  have h21 : fi κ1 (A 21) 2 = nI c := hT0.2.1.2.2.1.trans hT0.2.2.2.1.2.1
  refine ⟨r, κ2, μ2, ?_, e3, hr, q_close hR gg (mu.trans m2) h7, h7, hK2, ?_⟩
  · unfold p_ErrataRow_wrongAhead
    simp -implicitDefEqProofs only [hs.top, hs.w20, ck_1, bo_s, bd_s, e1, hs1.top, hs1.tr, c_isLetter N hs1, ite10, h21, inbT hk10 (by decide), clN (show k < 2147483648 by omega), lt_s9]
    rw [if_pos ⟨nI_pos' (by omega), nI_lt hk (by omega)⟩, e2]
  · rw [g2.ai (by unfold Lp; omega), g3.ai (by omega)]
    exact g1s.ai (by unfold Ds; omega)
def Iv1 (A : Nat → Nat) (S : Nat → Int32) (κ : Cz) (μ : Mz) (f : Nat) (w p : Int32) : Prop := RelA A κ μ ∧ ga 7 μ = S ∧ Kp μ S ∧ Fnd κ A (nI f) w p ∧ f < 11
theorem sm_one (N : Nat) (hN : 20000 ≤ N) (x0 : Nat) : Sm_one N x0 (Rel x0) := by
  rintro κ μ a1 a2 ⟨A, rfl, hR⟩
  have hs := hR.sh
  obtain ⟨c, h, e, q, nn, hO⟩ := hR.ok
  have hc10 : c ≤ 10 := hO.1
  have h3 : ga 7 μ 3 = nI c := hO.2.1
  have h0 : fi κ (A 21) 0 = ga 7 μ 0 := hR.wd.1.1
  unfold p_ErrataRow_one p12_one
  simp -implicitDefEqProofs only [hs.top, hs.w20, ck_1, bo_s, bd_s, c_within, m_in N a1 1 40 1 40 (by decide) (by decide), m_in N a2 0 2 0 2 (by decide) (by decide), m_isBook, h0, ite10]
  rcases told_or hO with hb | hb
  · simp only [hb, ne10, if_true, if_false]
    by_cases hn : 1 ≤ a1 ∧ a1 ≤ 40
    · by_cases hw : 0 ≤ a2 ∧ a2 ≤ 2
      · rw [if_pos hn, if_pos hn, if_pos hw, if_pos hw]
        obtain ⟨n, n1, n2, rfl⟩ := in_nat1 40 (by omega) rfl hn
        obtain ⟨w, w1, rfl⟩ := in_nat 2 (by omega) rfl hw
        -- the inner loop
        have inner : ∀ (kc : Nat → Int32 → Int32 → Int32 → Cz → Option (Int32 × Cz)) (km : Int32 → Int32 → Int32 → Int32 → Int32 → Int32 → Mz → Option (Int32 × Mz)) (l : Nat), l < c → ∀ (κ : Cz) (μ1 : Mz) (f : Nat) (wh pt : Int32), Iv1 A (ga 7 μ) κ μ1 f wh pt → ∃ (κ' : Cz) (μ' : Mz) (f' : Nat) (wh' pt' : Int32), Iv1 A (ga 7 μ) κ' μ' f' wh' pt' ∧ b_ErrataRow_one_67 N kc N (A 0) (nI n) (nI w) (nI l) 0 κ = kc (A 0) (nI n) (nI w) (nI (l + 1)) κ' ∧ b12_one_67 N km N (nI n) (nI w) wh pt (nI f) (nI l) 0 μ1 = km (nI n) (nI w) wh' pt' (nI f') (nI (l + 1)) μ' := by
          intro kc km l hl
          have L := upL 8 (fun fu i => ∀ (κ : Cz) (μ1 : Mz) (f : Nat) (wh pt : Int32), Iv1 A (ga 7 μ) κ μ1 f wh pt → ∃ (κ' : Cz) (μ' : Mz) (f' : Nat) (wh' pt' : Int32), Iv1 A (ga 7 μ) κ' μ' f' wh' pt' ∧ b_ErrataRow_one_67 N kc fu (A 0) (nI n) (nI w) (nI l) (nI i) κ = kc (A 0) (nI n) (nI w) (nI (l + 1)) κ' ∧ b12_one_67 N km fu (nI n) (nI w) wh pt (nI f) (nI l) (nI i) μ1 = km (nI n) (nI w) wh' pt' (nI f') (nI (l + 1)) μ') (by
            intro fu κ μ1 f wh pt hI
            refine ⟨κ, μ1, f, wh, pt, hI, ?_, ?_⟩
            · rw [b_ErrataRow_one_67, if_pos (show (8 : Int32) ≤ nI 8 from nI_le (a := 8) (b := 8) (by omega) (by omega)), lt_s9, nI_1]
            · rw [b12_one_67, if_pos (show (8 : Int32) ≤ nI 8 from nI_le (a := 8) (b := 8) (by omega) (by omega)), lt_s9, nI_1]) (by
            intro fu i hi ih κ μ1 f wh pt hI
            obtain ⟨hR1, h71, hK1, hF, hf⟩ := hI
            have hO1 : OkV (ga 7 μ1) c h e q nn := by rw [h71]; exact hO
            have hb1 : ga 7 μ1 0 = 1 := by rw [h71]; exact hb
            obtain ⟨r, κ2, μ2, p1, p2, hr, hR2, h72, hK2, h70⟩ := wl_both N hN (n := n) (by omega) hR1 hO1 hb1 (by rw [h71]; exact hK1) hl hi
            have hs1 := hR1.sh
            have hs2 := hR2.sh
            have e13 : (13 : Int32) + nI l = nI (13 + l) := nI_add 13 l
            have n8 : ¬ (8 : Int32) ≤ nI i := nI_ge (b := 8) hi (by omega)
            have hF2 : ai κ2 (A 70) 0 = nI f := by rw [h70]; exact hF.1
            have j0 : inb (0 : Int32) 3 = true := by decide
            rw [b_ErrataRow_one_67, b12_one_67, if_neg n8, if_neg n8]
            simp -implicitDefEqProofs only [hs1.top, ck_1, p1, bd_s, hs2.top, bo_s, j0, k0, hF2, e13, inbT (show 13 + l < 129 by omega) (by decide), clN (show 13 + l < 2147483648 by omega), lt_s9, p2, nI_1]
            by_cases hlt : nI r < nI f
            · rw [if_pos hlt, if_neg (Int32.not_le.mpr hlt)]
              obtain ⟨κ3, e3, g3, hF3⟩ := c_keepFound N hs2 (nI r) (nI l) (nI i)
              rw [e3, bo_s]
              exact ih κ3 μ2 r (nI l) (nI i) ⟨hR2.c70 g3, h72.trans h71, by rw [← h71]; exact hK2, hF3, hr⟩
            · rw [if_neg hlt, if_pos (Int32.not_lt.mp hlt)]
              exact ih κ2 μ2 f wh pt ⟨hR2, h72.trans h71, by rw [← h71]; exact hK2, ⟨hF2, by rw [h70]; exact hF.2.1, by rw [h70]; exact hF.2.2⟩, hf⟩) N 0 (by omega) (by omega)
          intro κ μ1 f wh pt hI
          have := L κ μ1 f wh pt hI
          rw [nI_0] at this
          exact this
        have outer := upL c (fun fu i => ∀ (κ : Cz) (μ1 : Mz) (f : Nat) (wh pt : Int32), Iv1 A (ga 7 μ) κ μ1 f wh pt → ∃ (r : Int32) (κ' : Cz) (μ' : Mz), b_ErrataRow_one_50 N fu (A 0) (nI n) (nI w) (nI i) κ = some (r, κ') ∧ b12_one_53 N fu (nI n) (nI w) wh pt (nI f) (nI i) μ1 = some (r, μ') ∧ RelA A κ' μ') (by
          intro fu κ μ1 f wh pt hI
          obtain ⟨hR1, h71, hK1, hF, hf⟩ := hI
          have hs1 := hR1.sh
          have hl1 : fi κ (A 21) 2 = nI c := by rw [hR1.wd.1.2.2.1, h71]; exact h3
          have h31 : ga 7 μ1 3 = nI c := by rw [h71]; exact h3
          rw [b_ErrataRow_one_50, b12_one_53, show ga 7 μ1 (3 : Int32).toNatClampNeg = nI c from h31]
          simp -implicitDefEqProofs only [hs1.top, hs1.w20, ck_1, bo_s, hl1, inbT (show w < 3 by omega) (by decide), clN (show w < 2147483648 by omega)]
          rw [if_pos (nI_le (Nat.le_refl c) (by omega)), if_pos (nI_le (Nat.le_refl c) (by omega))]
          match w, w1 with
          | 0, _ => exact ⟨_, κ, μ1, rfl, by rw [if_pos (by decide), hF.1], hR1⟩
          | 1, _ => exact ⟨_, κ, μ1, rfl, by rw [if_neg (by decide), if_pos (by decide), hF.2.1], hR1⟩
          | 2, _ => exact ⟨_, κ, μ1, rfl, by rw [if_neg (by decide), if_neg (by decide), hF.2.2], hR1⟩) (by
          intro fu i hi ih κ μ1 f wh pt hI
          obtain ⟨κ2, μ2, f2, wh2, pt2, hI2, p1, p2⟩ := inner (b_ErrataRow_one_50 N fu) (b12_one_53 N fu) i hi κ μ1 f wh pt hI
          obtain ⟨hR1, h71, -⟩ := hI
          have hs1 := hR1.sh
          have hl1 : fi κ (A 21) 2 = nI c := by rw [hR1.wd.1.2.2.1, h71]; exact h3
          have h31 : ga 7 μ1 3 = nI c := by rw [h71]; exact h3
          rw [b_ErrataRow_one_50, b12_one_53, show ga 7 μ1 (3 : Int32).toNatClampNeg = nI c from h31]
          simp -implicitDefEqProofs only [hs1.top, hs1.w20, ck_1, bo_s, hl1]
          rw [if_neg (nI_ge hi (by omega)), if_neg (nI_ge hi (by omega)), p1, p2]
          exact ih κ2 μ2 f2 wh2 pt2 hI2) N 0 (by omega) (by omega)
        -- begun
        have m1 : Mq μ (sa 9 (kpF (ga 7 μ) (ga 9 μ) 33) μ) := Mq.row (by unfold Rq; omega) _
        have h71 : ga 7 (sa 9 (kpF (ga 7 μ) (ga 9 μ) 33) μ) = ga 7 μ := ga_sa_ne (by decide) _ _
        have hR1 : RelA A κ (sa 9 (kpF (ga 7 μ) (ga 9 μ) 33) μ) := q_close hR (Ch.refl _ _ _) m1 h71
        have hK1 : Kp (sa 9 (kpF (ga 7 μ) (ga 9 μ) 33) μ) (ga 7 μ) := by
          intro k hk
          rw [ga_sa]
          exact if_pos hk
        obtain ⟨r, κ2, μ2, p1, p2, hr, hR2, h72, hK2, h70⟩ := wn_both N hN (n := n) (by omega) hR1 (by rw [h71]; exact hO) (by rw [h71]; exact hb) (by rw [h71]; exact hK1) (-1)
        have hs2 := hR2.sh
        obtain ⟨κ3, e3, g3, hF3⟩ := c_keepFound N hs2 (nI r) (-1) (-1)
        rw [m_keeps N (by omega) μ, bo_s, p1, p2, bd_s, bd_s]
        simp -implicitDefEqProofs only [hs2.top, ck_1, e3, bo_s]
        obtain ⟨r', κ', μ', q1, q2, q3⟩ := outer κ3 μ2 r (-1) (-1) ⟨hR2.c70 g3, h72.trans h71, by rw [h71] at hK2; exact hK2, hF3, hr⟩
        rw [nI_0] at q1 q2
        exact ⟨r', κ', μ', q1, q2, A, rfl, q3⟩
      · rw [if_pos hn, if_pos hn, if_neg hw, if_neg hw]
        exact ⟨-2, κ, μ, rfl, rfl, A, rfl, hR⟩
    · rw [if_neg hn, if_neg hn]
      exact ⟨-2, κ, μ, rfl, rfl, A, rfl, hR⟩
  · simp only [hb, ne01, if_true, if_false]
    exact ⟨-2, κ, μ, rfl, rfl, A, rfl, hR⟩
