/-! rests -/
theorem c_found (N : Nat) {A : Nat → Nat} {κ : Cz} (hs : Sh κ A) (a b c : Int32) : ∃ κ1, p_ErrataRow_keepFound N (A 0) a b c κ = some κ1 ∧ Chg A (fun r => r = 70) κ κ1 ∧ Fnd κ1 A a b c := by
  have hA := hs.inj
  have j0 : inb (0 : Int32) 3 = true := by decide
  have j1 : inb (1 : Int32) 3 = true := by decide
  have j2 : inb (2 : Int32) 3 = true := by decide
  unfold p_ErrataRow_keepFound
  simp -implicitDefEqProofs only [hs.top, ck_1, bo_s, lt_s9, isK_ai, fr_ai, ln_ai, ai_ai, if_true, j0, j1, j2, k0, k1, k2]
  refine ⟨_, rfl, ((Chg.sai (L := fun r => r = 70) hA κ (r := 70) rfl _).trans (Chg.sai (L := fun r => r = 70) hA _ (r := 70) rfl _)).trans (Chg.sai (L := fun r => r = 70) hA _ (r := 70) rfl _), ?_, ?_, ?_⟩
  · simp [ai_ai, upd_at]
  · simp [ai_ai, upd_at]
  · simp [ai_ai, upd_at]
/-- the gains, in both -/
def Gn (κ : Cz) (A : Nat → Nat) (μ : Mz) (M : Nat) : Prop := ∀ j, j < M → ai κ (A 72) j = ga 13 μ j
theorem Gn.ch {κ κ1 : Cz} {A : Nat → Nat} {μ μ1 : Mz} {M : Nat} (h : Gn κ A μ M) (e1 : ai κ1 (A 72) = ai κ (A 72)) (e2 : ga 13 μ1 = ga 13 μ) : Gn κ1 A μ1 M := by
  intro j hj
  rw [e1, e2]
  exact h j hj
theorem Gn.put {κ : Cz} {A : Nat → Nat} {μ : Mz} {M : Nat} (h : Gn κ A μ M) (k : Nat) (v : Int32) : Gn (sai (A 72) (upd (ai κ (A 72)) k v) κ) A (sa 13 (upd (ga 13 μ) k v) μ) M := by
  intro j hj
  rw [ai_ai, if_pos rfl, ga_sa, upd_at, upd_at]
  split
  · rfl
  · exact h j hj
theorem Gn.more {κ : Cz} {A : Nat → Nat} {μ : Mz} {M : Nat} (h : Gn κ A μ M) (v : Int32) : Gn (sai (A 72) (upd (ai κ (A 72)) M v) κ) A (sa 13 (upd (ga 13 μ) M v) μ) (M + 1) := by
  intro j hj
  rw [ai_ai, if_pos rfl, ga_sa, upd_at, upd_at]
  by_cases z : j = M
  · rw [if_pos z, if_pos z]
  · rw [if_neg z, if_neg z]
    exact h j (by omega)
def gnV (p o : Int32) (k : Nat) : Int32 := if bt p k = true then 1 else if bt o k = true then -1 else 0
theorem c_gainOf (N : Nat) {A : Nat → Nat} {κ : Cz} (hs : Sh κ A) {k : Nat} (hk : k < 32) : p_Press_gainOf N (A 40) (nI k) κ = some (gnV (fi κ (A 40) 4) (fi κ (A 40) 5) k, κ) := by
  unfold p_Press_gainOf gnV
  simp -implicitDefEqProofs only [hs.pr, ck_1, c_hasBit N _ hk, bd_s, ite10]
  by_cases z : bt (fi κ (A 40) 4) k = true
  · rw [if_pos z, if_pos z]
  · rw [if_neg z, if_neg z]
    by_cases z2 : bt (fi κ (A 40) 5) k = true
    · rw [if_pos z2, if_pos z2]
    · rw [if_neg z2, if_neg z2]
theorem m_getsNow (N : Nat) {μ : Mz} {k : Nat} (hk : k < 32) (hd : ∀ k, bt (gi 14 μ) k = true → bt (gi 15 μ) k = true → False) : p12_getsNow N (nI k) μ = some (gnV (gi 15 μ) (gi 14 μ) k, μ) := by
  unfold p12_getsNow gnV
  rw [shr_bit _ hk, shr_bit _ hk]
  by_cases z : bt (gi 15 μ) k = true
  · have z2 : ¬ bt (gi 14 μ) k = true := fun y => hd k y z
    rw [if_pos z, if_pos z, if_neg z2]
    rfl
  · rw [if_neg z, if_neg z]
    by_cases z2 : bt (gi 14 μ) k = true
    · rw [if_pos z2, if_pos z2]; rfl
    · rw [if_neg z2, if_neg z2]; rfl
theorem gains_loop (N : Nat) (hN : 20000 ≤ N) {A : Nat → Nat} {S : Nat → Int32} {c h e n k1 k2 t : Nat} (hn : n ≤ 20) (he : e ≤ 999) (hk1 : k1 < 10) (hk2 : k2 < 10) (ht : t < 64) : ∀ (f i : Nat), i ≤ n → n < f + i → ∀ (κ : Cz) (μ : Mz), TR A κ μ c h (e + i) → Gn κ A μ (2 * t + 2) → Kp μ S → Sb S (ga 7 μ) → ∃ (κ1 : Cz) (μ1 : Mz), b_ErrataRow_findGains_64 N f (A 0) (nI k1) (nI k2) (nI n) (nI t) (nI i) κ = some κ1 ∧ b12_fillsRest_52 N f (nI k1) (nI k2) (nI n) (nI (2 * t)) (nI i) μ = some μ1 ∧ Gn κ1 A μ1 (2 * t + 2) ∧ Chg A (fun r => Lp 66 r ∨ r = 72) κ κ1 ∧ Mq μ μ1 ∧ ga 7 μ1 = S ∧ Kp μ1 S := by
  have e2t : (2 : Int32) * nI t = nI (2 * t) := pk_mul 2 t
  refine upL n (fun f i => ∀ (κ : Cz) (μ : Mz), TR A κ μ c h (e + i) → Gn κ A μ (2 * t + 2) → Kp μ S → Sb S (ga 7 μ) → ∃ (κ1 : Cz) (μ1 : Mz), b_ErrataRow_findGains_64 N f (A 0) (nI k1) (nI k2) (nI n) (nI t) (nI i) κ = some κ1 ∧ b12_fillsRest_52 N f (nI k1) (nI k2) (nI n) (nI (2 * t)) (nI i) μ = some μ1 ∧ Gn κ1 A μ1 (2 * t + 2) ∧ Chg A (fun r => Lp 66 r ∨ r = 72) κ κ1 ∧ Mq μ μ1 ∧ ga 7 μ1 = S ∧ Kp μ1 S) ?_ ?_
  · intro f κ μ hT hG hK sb
    refine ⟨κ, sa 7 S μ, ?_, ?_, hG.ch rfl (ga_sa_ne (by decide) _ _), Chg.refl _ _ _, Mq.row (Or.inl rfl) _, ga_sa _ _ _, hK.mq (ga_sa_ne (by decide) _ _)⟩
    · rw [b_ErrataRow_findGains_64, if_pos (nI_le (Nat.le_refl n) (by omega))]
    · rw [b12_fillsRest_52, if_pos (nI_le (Nat.le_refl n) (by omega)), m_back N (by omega) hK sb, bo_s]
  · intro f i hi ih κ μ hT hG hK sb
    have hs := hT.1
    have hA := hs.inj
    obtain ⟨m, κ1, μ1, p1, p2, hT1, g1, mc1, sb1, o1, o2, -, -, -, -, -, hd⟩ := tr_pass N (by omega) hT (by omega)
    have hs1 := hT1.1
    have hG1 : Gn κ1 A μ1 (2 * t + 2) := hG.ch (g1.ai (by unfold Lp; omega)) (mc1.2.1 13 (by unfold Rp; omega))
    -- the first one's gain
    have hT2 : TR A (sai (A 72) (upd (ai κ1 (A 72)) (2 * t) (ga 13 μ1 (2 * t) + gnV (gi 15 μ1) (gi 14 μ1) k1)) κ1) (sa 13 (upd (ga 13 μ1) (2 * t) (ga 13 μ1 (2 * t) + gnV (gi 15 μ1) (gi 14 μ1) k1)) μ1) c h (e + i + 1) := hT1.fram (Chg.sai (L := fun r => 70 ≤ r ∧ r ≤ 72) hA κ1 (r := 72) (by omega) _) (Mq.row (by unfold Rq; omega) _) (ga_sa_ne (by decide) _ _)
    have hG2 := hG1.put (2 * t) (ga 13 μ1 (2 * t) + gnV (gi 15 μ1) (gi 14 μ1) k1)
    have hs2 := hT2.1
    have hG2v := hG2 (2 * t + 1) (by omega)
    generalize hv1 : ga 13 μ1 (2 * t) + gnV (gi 15 μ1) (gi 14 μ1) k1 = v1 at *
    have hT3 : TR A (sai (A 72) (upd (ai (sai (A 72) (upd (ai κ1 (A 72)) (2 * t) v1) κ1) (A 72)) (2 * t + 1) (ga 13 (sa 13 (upd (ga 13 μ1) (2 * t) v1) μ1) (2 * t + 1) + gnV (gi 15 μ1) (gi 14 μ1) k2)) (sai (A 72) (upd (ai κ1 (A 72)) (2 * t) v1) κ1)) (sa 13 (upd (ga 13 (sa 13 (upd (ga 13 μ1) (2 * t) v1) μ1)) (2 * t + 1) (ga 13 (sa 13 (upd (ga 13 μ1) (2 * t) v1) μ1) (2 * t + 1) + gnV (gi 15 μ1) (gi 14 μ1) k2)) (sa 13 (upd (ga 13 μ1) (2 * t) v1) μ1)) c h (e + i + 1) := hT2.fram (Chg.sai (L := fun r => 70 ≤ r ∧ r ≤ 72) hA _ (r := 72) (by omega) _) (Mq.row (by unfold Rq; omega) _) (ga_sa_ne (by decide) _ _)
    have hG3 := hG2.put (2 * t + 1) (ga 13 (sa 13 (upd (ga 13 μ1) (2 * t) v1) μ1) (2 * t + 1) + gnV (gi 15 μ1) (gi 14 μ1) k2)
    have hK1 : Kp μ1 S := hK.mc mc1
    have sb3 : Sb S (ga 7 μ1) := sb.trans sb1
    obtain ⟨κ4, μ4, q1, q2, q3, q4, q5, q6, q7⟩ := ih _ _ hT3 hG3 ((hK1.mq (ga_sa_ne (by decide) _ _)).mq (ga_sa_ne (by decide) _ _)) (by rw [ga_sa_ne (by decide), ga_sa_ne (by decide)]; exact sb3)
    refine ⟨κ4, μ4, ?_, ?_, q3, ?_, ?_, q6, q7⟩
    · rw [b_ErrataRow_findGains_64, if_neg (nI_ge hi (by omega)), e2t]
      have g1o := c_gainOf N hs1 (k := k1) (by omega)
      have g2o := c_gainOf N hs2 (k := k2) (by omega)
      rw [o1, o2] at g1o
      rw [fi_ai, o1, o2] at g2o
      simp -implicitDefEqProofs only [hs.top, hs.pr, ck_1, bo_s, bd_s, p1, hs1.top, hs1.pr, lt_s9, inbT (show 2 * t < 128 by omega) (by decide), clN (show 2 * t < 2147483648 by omega), g1o, hG1 (2 * t) (by omega), hv1, nI_1]
      simp -implicitDefEqProofs only [hs2.top, hs2.pr, ck_1, bo_s, bd_s, lt_s9, inbT (show 2 * t + 1 < 128 by omega) (by decide), clN (show 2 * t + 1 < 2147483648 by omega), g2o, hG2v]
      exact q1
    · rw [b12_fillsRest_52, if_neg (nI_ge hi (by omega)), p2, bd_s]
      have d2 : ∀ k, bt (gi 14 (sa 13 (upd (ga 13 μ1) (2 * t) v1) μ1)) k = true → bt (gi 15 (sa 13 (upd (ga 13 μ1) (2 * t) v1) μ1)) k = true → False := hd
      have m1o := m_getsNow N (μ := μ1) (k := k1) (by omega) hd
      have m2o := m_getsNow N (μ := sa 13 (upd (ga 13 μ1) (2 * t) v1) μ1) (k := k2) (by omega) d2
      rw [gi_sa, gi_sa] at m2o
      simp -implicitDefEqProofs only [ck_1, bo_s, bd_s, lt_s9, inbT (show 2 * t < 128 by omega) (by decide), clN (show 2 * t < 2147483648 by omega), m1o, hv1, nI_1, inbT (show 2 * t + 1 < 128 by omega) (by decide), clN (show 2 * t + 1 < 2147483648 by omega), m2o]
      exact q2
    · exact ((g1.mono (fun r z => Or.inl z)).trans ((Chg.sai (L := fun r => Lp 66 r ∨ r = 72) hA κ1 (r := 72) (Or.inr rfl) _).trans (Chg.sai (L := fun r => Lp 66 r ∨ r = 72) hA _ (r := 72) (Or.inr rfl) _))).trans q4
    · exact (mc1.mq.trans ((Mq.row (by unfold Rq; omega) _).trans (Mq.row (by unfold Rq; omega) _))).trans q5
theorem TR.gn {A : Nat → Nat} {κ : Cz} {μ : Mz} {c h e k : Nat} {v : Int32} (hT : TR A κ μ c h e) : TR A (sai (A 72) (upd (ai κ (A 72)) k v) κ) (sa 13 (upd (ga 13 μ) k v) μ) c h e := hT.fram (Chg.sai (L := fun r => 70 ≤ r ∧ r ≤ 72) hT.1.inj κ (r := 72) (by omega) _) (Mq.row (by unfold Rq; omega) _) (ga_sa_ne (by decide) _ _)
theorem sa_comm {k j : Nat} (h : k ≠ j) (f g : Nat → Int32) (μ : Mz) : sa k f (sa j g μ) = sa j g (sa k f μ) := by
  simp only [sa]
  congr 2
  funext i
  simp only [va_up]
  by_cases h1 : i = k
  · subst h1
    simp [h]
  · simp [h1]
theorem fill_both (N : Nat) (hN : 20000 ≤ N) {A : Nat → Nat} {κ : Cz} {μ : Mz} {c h e q nn n k1 k2 t : Nat} (hR : RelA A κ μ) (hO : OkV (ga 7 μ) c h e q nn) (hb : ga 7 μ 0 = 1) (hn : n ≤ 20) (hk1 : k1 < 10) (hk2 : k2 < 10) (ht : t < 64) (hG : Gn κ A μ (2 * t)) (hK : Kp μ (ga 7 μ)) : ∃ (κ1 : Cz) (μ1 : Mz), p_ErrataRow_findGains N (A 0) (nI k1) (nI k2) (nI n) (nI t) κ = some κ1 ∧ p12_fillsRest N (nI k1) (nI k2) (nI t) (nI n) μ = some μ1 ∧ RelA A κ1 μ1 ∧ Gn κ1 A μ1 (2 * t + 2) ∧ ga 7 μ1 = ga 7 μ ∧ Kp μ1 (ga 7 μ) := by
  have hs := hR.sh
  have hA := hs.inj
  have he : e ≤ 999 := hO.2.2.2.2.1
  obtain ⟨κ0, e0, g0s, tr0⟩ := q_openS N hR hO hb
  have g0 := g0s.mono Ds_Dc
  have hT0 := tr0 μ (Mq.refl μ) rfl
  have hT1 := hT0.put hk1 (show t / 8 < 8 by omega)
  have hT2 := hT1.put hk2 (show t % 8 < 8 by omega)
  have hT3 := hT2.gn (k := 2 * t) (v := 0)
  have hT4 := hT3.gn (k := 2 * t + 1) (v := 0)
  have hG0 : Gn κ0 A μ (2 * t) := hG.ch (g0s.ai (by unfold Ds; omega)) rfl
  have hG1 : Gn (sai (A 67) (upd (ai κ0 (A 67)) k1 (nI (t / 8))) κ0) A (sa 7 (upd (ga 7 μ) (13 + k1) (nI (t / 8))) μ) (2 * t) := hG0.ch (by rw [ai_ai, if_neg (hA.ne (by decide))]) (ga_sa_ne (by decide) _ _)
  have hG2 := (hG1.ch (κ1 := sai (A 67) (upd (ai (sai (A 67) (upd (ai κ0 (A 67)) k1 (nI (t / 8))) κ0) (A 67)) k2 (nI (t % 8))) (sai (A 67) (upd (ai κ0 (A 67)) k1 (nI (t / 8))) κ0)) (μ1 := sa 7 (upd (ga 7 (sa 7 (upd (ga 7 μ) (13 + k1) (nI (t / 8))) μ)) (13 + k2) (nI (t % 8))) (sa 7 (upd (ga 7 μ) (13 + k1) (nI (t / 8))) μ)) (by rw [ai_ai, if_neg (hA.ne (by decide))]) (ga_sa_ne (by decide) _ _)).more 0
  have hG4 := hG2.more 0
  have hs0 := hT0.1
  have hs1 := hT1.1
  have hs2 := hT2.1
  have hs3 := hT3.1
  have e8 : nI t / 8 = nI (t / 8) := pk_div (d := 8) (by omega) (by omega) (by omega)
  have r8 : nI t - nI (t / 8) * 8 = nI (t % 8) := by
    have := pk_rem (a := t) (d := 8) (by omega) (by omega) (by omega)
    rw [show nI 8 = (8 : Int32) from rfl, e8] at this
    exact this
  have e2t : (2 : Int32) * nI t = nI (2 * t) := pk_mul 2 t
  have e131 : (13 : Int32) + nI k1 = nI (13 + k1) := nI_add 13 k1
  have e132 : (13 : Int32) + nI k2 = nI (13 + k2) := nI_add 13 k2
  simp only [ga_sa, sa_sa, ga_sa_ne (show 13 ≠ 7 by decide), ga_sa_ne (show 7 ≠ 13 by decide)] at hT4 hG4
  obtain ⟨κ5, μ5, p1, p2, hG5, g5, m5, h75, hK5⟩ := gains_loop N hN (S := ga 7 μ) (n := n) (k1 := k1) (k2 := k2) (t := t) hn he hk1 hk2 ht N 0 (by omega) (by omega) _ _ hT4 hG4 ((hK.mq (ga_sa_ne (by decide) _ _)).mq (ga_sa_ne (by decide) _ _)) (by
    rw [ga_sa_ne (by decide), ga_sa]
    exact (Sb.upd _ _ (by omega)).trans (Sb.upd _ _ (by omega)))
  rw [nI_0] at p1 p2
  refine ⟨κ5, μ5, ?_, ?_, ?_, hG5, h75, hK5⟩
  · unfold p_ErrataRow_findGains
    simp -implicitDefEqProofs only [hs.top, hs.w20, ck_1, bo_s, e0, hs0.top, hs0.tr, lt_s9, e8, r8, inbT hk1 (by decide), inbT hk2 (by decide), clN (show k1 < 2147483648 by omega), clN (show k2 < 2147483648 by omega), isK_ai, fr_ai, ln_ai, e2t, nI_1, inbT (show 2 * t < 128 by omega) (by decide), clN (show 2 * t < 2147483648 by omega), inbT (show 2 * t + 1 < 128 by omega) (by decide), clN (show 2 * t + 1 < 2147483648 by omega)]
    exact p1
  · unfold p12_fillsRest
    simp -implicitDefEqProofs only [ck_1, lt_s9, e8, r8, e2t, nI_1, e131, e132, inbT (show 2 * t < 128 by omega) (by decide), clN (show 2 * t < 2147483648 by omega), inbT (show 2 * t + 1 < 128 by omega) (by decide), clN (show 2 * t + 1 < 2147483648 by omega), inbT (show 13 + k1 < 129 by omega) (by decide), clN (show 13 + k1 < 2147483648 by omega), inbT (show 13 + k2 < 129 by omega) (by decide), clN (show 13 + k2 < 2147483648 by omega), ga_sa, sa_sa, ga_sa_ne (show 7 ≠ 13 by decide)]
    rw [sa_comm (show 7 ≠ 13 by decide)]
    exact p2
  · refine q_close hR ?_ ?_ h75
    · refine (g0.trans (Ch.mono (Chg.ch ?_) (L := fun r => Lp 66 r ∨ r = 72) (fun r z => z.elim (Dc_Lp r) (fun y => by unfold Dc; omega)))).trans (g5.ch.mono (fun r z => z.elim (Dc_Lp r) (fun y => by unfold Dc; omega)))
      refine Chg.trans (Chg.trans (Chg.trans (Chg.sai hA κ0 (r := 67) ?_ _) (Chg.sai hA _ (r := 67) ?_ _)) (Chg.sai hA _ (r := 72) ?_ _)) (Chg.sai hA _ (r := 72) ?_ _)
      · exact Or.inl (Or.inr (Or.inr (Or.inl ⟨by omega, by omega⟩)))
      · exact Or.inl (Or.inr (Or.inr (Or.inl ⟨by omega, by omega⟩)))
      · exact Or.inr rfl
      · exact Or.inr rfl
    · exact ((Mq.row (k := 7) (Or.inl rfl) _).trans (Mq.row (k := 13) (by unfold Rq; omega) _)).trans m5
theorem isRest_both (N : Nat) (hN : 20000 ≤ N) {A : Nat → Nat} {κ : Cz} {μ : Mz} {t : Nat} (hs : Sh κ A) (hG : Gn κ A μ 128) (ht : t < 64) : ∃ b : Bool, p_ErrataRow_isRest N (A 0) (nI t) κ = some (if b = true then 1 else 0, κ) ∧ p12_isRest N (nI (t / 8)) (nI (t % 8)) μ = some (if b = true then 1 else 0, μ) := by
  have e8 : nI t / 8 = nI (t / 8) := pk_div (d := 8) (by omega) (by omega) (by omega)
  have r8 : nI t - nI (t / 8) * 8 = nI (t % 8) := by
    have := pk_rem (a := t) (d := 8) (by omega) (by omega) (by omega)
    rw [show nI 8 = (8 : Int32) from rfl, e8] at this
    exact this
  unfold p_ErrataRow_isRest p12_isRest
  rw [lt_s9, lt_s9, e8, r8]
  have L := upL 8 (fun f i => ∃ b : Bool, b_ErrataRow_isRest_13 N f (A 0) (nI t) (nI (t / 8)) (nI (t % 8)) (nI i) κ = some (if b = true then 1 else 0, κ) ∧ b12_isRest_2 N f (nI (t / 8)) (nI (t % 8)) (nI i) μ = some (if b = true then 1 else 0, μ)) (by
    intro f
    refine ⟨true, ?_, ?_⟩
    · rw [b_ErrataRow_isRest_13, if_pos (show (8 : Int32) ≤ nI 8 from nI_le (a := 8) (b := 8) (by omega) (by omega)), if_pos rfl]
    · rw [b12_isRest_2, if_pos (show (8 : Int32) ≤ nI 8 from nI_le (a := 8) (b := 8) (by omega) (by omega)), if_pos rfl]) (by
    intro f i hi ih
    have n8 : ¬ (8 : Int32) ≤ nI i := nI_ge (b := 8) hi (by omega)
    have c1 : (2 : Int32) * (nI i * 8 + nI (t % 8)) = nI (2 * (8 * i + t % 8)) := by
      rw [show (8 : Int32) = nI 8 from rfl, pk_mul, nI_add, show (2 : Int32) = nI 2 from rfl, pk_mul, Nat.mul_comm i 8]
    have c2 : (2 : Int32) * nI t = nI (2 * t) := pk_mul 2 t
    have c3 : (2 : Int32) * (nI (t / 8) * 8 + nI i) + 1 = nI (2 * (8 * (t / 8) + i) + 1) := by
      rw [show (8 : Int32) = nI 8 from rfl, pk_mul, nI_add, show (2 : Int32) = nI 2 from rfl, pk_mul, Nat.mul_comm (t / 8) 8, nI_1]
    have d1 : (2 : Int32) * (8 * nI i + nI (t % 8)) = nI (2 * (8 * i + t % 8)) := by
      rw [show (8 : Int32) = nI 8 from rfl, pk_mul, nI_add, show (2 : Int32) = nI 2 from rfl, pk_mul]
    have d2 : (2 : Int32) * (8 * nI (t / 8) + nI (t % 8)) = nI (2 * t) := by
      rw [show (8 : Int32) = nI 8 from rfl, pk_mul, nI_add, show (2 : Int32) = nI 2 from rfl, pk_mul, show 8 * (t / 8) + t % 8 = t by omega]
    have d3 : (2 : Int32) * (8 * nI (t / 8) + nI i) + 1 = nI (2 * (8 * (t / 8) + i) + 1) := by
      rw [show (8 : Int32) = nI 8 from rfl, pk_mul, nI_add, show (2 : Int32) = nI 2 from rfl, pk_mul, nI_1]
    rw [b_ErrataRow_isRest_13, b12_isRest_2, if_neg n8, if_neg n8]
    simp -implicitDefEqProofs only [hs.top, ck_1, bo_s, lt_s9, c1, c2, c3, d1, d2, d3, nI_1, inbT (show 2 * (8 * i + t % 8) < 128 by omega) (by decide), clN (show 2 * (8 * i + t % 8) < 2147483648 by omega), inbT (show 2 * t < 128 by omega) (by decide), clN (show 2 * t < 2147483648 by omega), inbT (show 2 * (8 * (t / 8) + i) + 1 < 128 by omega) (by decide), clN (show 2 * (8 * (t / 8) + i) + 1 < 2147483648 by omega), inbT (show 2 * t + 1 < 128 by omega) (by decide), clN (show 2 * t + 1 < 2147483648 by omega), hG (2 * (8 * i + t % 8)) (by omega), hG (2 * t) (by omega), hG (2 * (8 * (t / 8) + i) + 1) (by omega), hG (2 * t + 1) (by omega)]
    by_cases z1 : ga 13 μ (2 * t) < ga 13 μ (2 * (8 * i + t % 8))
    · rw [if_pos z1, if_neg (Int32.not_le.mpr z1)]
      exact ⟨false, rfl, rfl⟩
    · rw [if_neg z1, if_pos (Int32.not_lt.mp z1)]
      by_cases z2 : ga 13 μ (2 * (8 * (t / 8) + i) + 1) ≤ ga 13 μ (2 * t + 1)
      · rw [if_pos z2, if_pos z2]; exact ih
      · rw [if_neg z2, if_neg z2]; exact ⟨false, rfl, rfl⟩) N 0 (by omega) (by omega)
  rw [nI_0] at L
  exact L
/-- found, and the code of the first -/
def Fc (κ : Cz) (A : Nat → Nat) (m f : Int32) : Prop := (f = -1 ∧ Fnd κ A m (-2) (-2)) ∨ ∃ t : Nat, t < 64 ∧ f = nI t ∧ Fnd κ A m (nI (t / 8)) (nI (t % 8))
theorem sm_rests (N : Nat) (hN : 20000 ≤ N) (x0 : Nat) : Sm_rests N x0 (Rel x0) := by
  rintro κ μ a1 a2 a3 a4 ⟨A, rfl, hR⟩
  have hs := hR.sh
  obtain ⟨c, h, e, q, nn, hO⟩ := hR.ok
  have hc10 : c ≤ 10 := hO.1
  have h3 : ga 7 μ 3 = nI c := hO.2.1
  have hl : fi κ (A 21) 2 = nI c := hR.wd.1.2.2.1.trans h3
  unfold p_ErrataRow_rests p12_rests
  simp -implicitDefEqProofs only [hs.top, ck_1, bo_s, bd_s, c_isLetter N hs, c_within, m_isInBook, m_in N a3 1 20 1 20 (by decide) (by decide), m_in N a4 0 2 0 2 (by decide) (by decide), hl, h3, ite10]
  by_cases hi : 0 ≤ a1 ∧ a1 < nI c
  · by_cases hj : 0 ≤ a2 ∧ a2 < nI c
    · by_cases hq : a1 = a2
      · rw [if_pos hi, if_pos hi, if_pos hj, if_pos hj, if_pos hq, if_pos hq]
        exact ⟨-1, κ, μ, rfl, rfl, A, rfl, hR⟩
      · by_cases hn : 1 ≤ a3 ∧ a3 ≤ 20
        · by_cases hw : 0 ≤ a4 ∧ a4 ≤ 2
          · rw [if_pos hi, if_pos hi, if_pos hj, if_pos hj, if_neg hq, if_neg hq, if_pos hn, if_pos hn, if_pos hw, if_pos hw]
            obtain ⟨k1, hk1, rfl⟩ := lt_nat (by omega) hi
            obtain ⟨k2, hk2, rfl⟩ := lt_nat (by omega) hj
            obtain ⟨n, n1, n2, rfl⟩ := in_nat1 20 (by omega) rfl hn
            obtain ⟨w, w1, rfl⟩ := in_nat 2 (by omega) rfl hw
            have hb := hO.told hk1
            have j0 : inb (0 : Int32) 3 = true := by decide
            -- the last loop, downwards
            have down : ∀ (j : Nat), j ≤ 64 → ∀ (f : Nat), j < f → ∀ (κ : Cz) (μ1 : Mz) (m fc : Int32), RelA A κ μ1 → Gn κ A μ1 128 → Fc κ A m fc → ∃ (r : Int32) (κ' : Cz), b_ErrataRow_rests_83 N f (A 0) (nI w) (if j = 0 then -1 else nI (j - 1)) κ = some (r, κ') ∧ b12_rests_87 N f (nI w) m fc (if j = 0 then -1 else nI (j - 1)) μ1 = some (r, μ1) ∧ RelA A κ' μ1 := by
              intro j
              induction j with
              | zero =>
                intro _ f hf κ μ1 m fc hR1 hG1 hF
                obtain ⟨f, rfl⟩ : ∃ g, f = g + 1 := ⟨f - 1, by omega⟩
                have hs1 := hR1.sh
                rw [if_pos rfl, b_ErrataRow_rests_83, b12_rests_87, if_pos (by decide), if_pos (by decide)]
                simp -implicitDefEqProofs only [hs1.top, ck_1, bo_s, inbT (show w < 3 by omega) (by decide), clN (show w < 2147483648 by omega)]
                rcases hF with ⟨rfl, f1, f2, f3⟩ | ⟨t, t1, rfl, f1, f2, f3⟩
                · match w, w1 with
                  | 0, _ => exact ⟨_, κ, rfl, by rw [if_pos (by decide), f1], hR1⟩
                  | 1, _ => exact ⟨_, κ, rfl, by rw [if_neg (by decide), if_neg (by decide), f2], hR1⟩
                  | 2, _ => exact ⟨_, κ, rfl, by rw [if_neg (by decide), if_neg (by decide), f3], hR1⟩
                · have e8 : nI t / 8 = nI (t / 8) := pk_div (d := 8) (by omega) (by omega) (by omega)
                  have r8 : nI t - nI (t / 8) * 8 = nI (t % 8) := by
                    have := pk_rem (a := t) (d := 8) (by omega) (by omega) (by omega)
                    rw [show nI 8 = (8 : Int32) from rfl, e8] at this
                    exact this
                  have hp : (0 : Int32) ≤ nI t := nI_pos' (by omega)
                  rw [e8, r8]
                  match w, w1 with
                  | 0, _ => exact ⟨_, κ, rfl, by rw [if_pos (by decide), f1], hR1⟩
                  | 1, _ => exact ⟨_, κ, rfl, by rw [if_neg (by decide), if_pos hp, if_pos (by decide), f2], hR1⟩
                  | 2, _ => exact ⟨_, κ, rfl, by rw [if_neg (by decide), if_pos hp, if_neg (by decide), f3], hR1⟩
              | succ j ih =>
                intro hj64 f hf κ μ1 m fc hR1 hG1 hF
                obtain ⟨f, rfl⟩ : ∃ g, f = g + 1 := ⟨f - 1, by omega⟩
                have hs1 := hR1.sh
                have ex : (if j = 0 then (-1 : Int32) else nI (j - 1)) = nI j + (-1) := by
                  by_cases z : j = 0
                  · subst z; decide
                  · obtain ⟨j2, rfl⟩ : ∃ g, j = g + 1 := ⟨j - 1, by omega⟩
                    rw [if_neg (by omega), pk_m1]
                    rfl
                rw [if_neg (show ¬ j + 1 = 0 by omega), Nat.add_sub_cancel]
                obtain ⟨b, b1, b2⟩ := isRest_both N hN hs1 hG1 (t := j) (by omega)
                have e8 : nI j / 8 = nI (j / 8) := pk_div (d := 8) (by omega) (by omega) (by omega)
                have r8 : nI j - nI (j / 8) * 8 = nI (j % 8) := by
                  have := pk_rem (a := j) (d := 8) (by omega) (by omega) (by omega)
                  rw [show nI 8 = (8 : Int32) from rfl, e8] at this
                  exact this
                have h0m : ai κ (A 70) 0 = m := by
                  rcases hF with ⟨_, f1, _⟩ | ⟨t, _, _, f1, _⟩ <;> exact f1
                rw [b_ErrataRow_rests_83, b12_rests_87, if_neg (nI_pos (by omega)), if_neg (nI_pos (by omega)), e8, r8, b2, bd_s]
                simp -implicitDefEqProofs only [hs1.top, ck_1, bo_s, b1, bd_s, ite10, j0, k0, h0m, lt_s9]
                rw [← ex]
                cases b with
                | false =>
                  rw [if_neg (show ¬ false = true by decide), if_neg (show ¬ false = true by decide)]
                  exact ih (by omega) f (by omega) κ μ1 m fc hR1 hG1 hF
                | true =>
                  rw [if_pos (show true = true from rfl), if_pos (show true = true from rfl)]
                  obtain ⟨κ2, p1, g2, hF2⟩ := c_found N hs1 (m + 1) (nI (j / 8)) (nI (j % 8))
                  rw [p1, bo_s]
                  exact ih (by omega) f (by omega) κ2 μ1 (m + 1) (nI j) (hR1.ch (g2.ch.mono (fun r z => by unfold Dc; omega)) (QM.refl _)) (hG1.ch (g2.ai (by omega)) rfl) (Or.inr ⟨j, by omega, rfl, hF2⟩)
            have up := upL 64 (fun f i => ∀ (κ : Cz) (μ1 : Mz), RelA A κ μ1 → Gn κ A μ1 (2 * i) → Kp μ1 (ga 7 μ) → ga 7 μ1 = ga 7 μ → ∃ (r : Int32) (κ' : Cz) (μ' : Mz), b_ErrataRow_rests_48 N f (A 0) (nI k1) (nI k2) (nI n) (nI w) (nI i) κ = some (r, κ') ∧ b12_rests_55 N f (nI k1) (nI k2) (nI n) (nI w) (nI i) μ1 = some (r, μ') ∧ RelA A κ' μ') (by
              intro f κ μ1 hR1 hG1 hK1 h71
              have hs1 := hR1.sh
              obtain ⟨κ2, p1, g2, hF2⟩ := c_found N hs1 0 (-2) (-2)
              have hG : Gn κ A μ1 128 := hG1
              obtain ⟨r, κ', q1, q2, q3⟩ := down 64 (by omega) N (by omega) κ2 μ1 0 (-1) (hR1.ch (g2.ch.mono (fun r z => by unfold Dc; omega)) (QM.refl _)) (hG.ch (g2.ai (by omega)) rfl) (Or.inl ⟨rfl, hF2⟩)
              rw [if_neg (by decide)] at q1 q2
              refine ⟨r, κ', μ1, ?_, ?_, q3⟩
              · rw [b_ErrataRow_rests_48, if_pos (show (64 : Int32) ≤ nI 64 from nI_le (a := 64) (b := 64) (by omega) (by omega))]
                simp -implicitDefEqProofs only [hs1.top, ck_1, p1, bo_s]
                exact q1
              · rw [b12_rests_55, if_pos (show (64 : Int32) ≤ nI 64 from nI_le (a := 64) (b := 64) (by omega) (by omega))]
                exact q2) (by
              intro f i hi ih κ μ1 hR1 hG1 hK1 h71
              have hs1 := hR1.sh
              obtain ⟨κ2, μ2, p1, p2, hR2, hG2, h72, hK2⟩ := fill_both N hN (n := n) (k1 := k1) (k2 := k2) (t := i) hR1 (by rw [h71]; exact hO) (by rw [h71]; exact hb) (by omega) (by omega) (by omega) hi hG1 (by rw [h71]; exact hK1)
              have n64 : ¬ (64 : Int32) ≤ nI i := nI_ge (b := 64) hi (by omega)
              rw [b_ErrataRow_rests_48, b12_rests_55, if_neg n64, if_neg n64, p2, bo_s, lt_s9, nI_1]
              simp -implicitDefEqProofs only [hs1.top, ck_1, p1, bo_s, lt_s9]
              exact ih κ2 μ2 hR2 hG2 (by rw [← h71]; exact hK2) (h72.trans h71)) N 0 (by omega) (by omega)
            have h71 : ga 7 (sa 9 (kpF (ga 7 μ) (ga 9 μ) 33) μ) = ga 7 μ := ga_sa_ne (by decide) _ _
            have m1 : Mq μ (sa 9 (kpF (ga 7 μ) (ga 9 μ) 33) μ) := Mq.row (by unfold Rq; omega) _
            have hK1 : Kp (sa 9 (kpF (ga 7 μ) (ga 9 μ) 33) μ) (ga 7 μ) := by
              intro k hk
              rw [ga_sa]
              exact if_pos hk
            obtain ⟨r, κ', μ', q1, q2, q3⟩ := up κ _ (q_close hR (Ch.refl _ _ _) m1 h71) (fun j hj => absurd hj (by omega)) hK1 h71
            rw [nI_0] at q1 q2
            rw [m_keeps N (by omega) μ, bo_s]
            exact ⟨r, κ', μ', q1, q2, A, rfl, q3⟩
          · rw [if_pos hi, if_pos hi, if_pos hj, if_pos hj, if_neg hq, if_neg hq, if_pos hn, if_pos hn, if_neg hw, if_neg hw]
            exact ⟨-1, κ, μ, rfl, rfl, A, rfl, hR⟩
        · rw [if_pos hi, if_pos hi, if_pos hj, if_pos hj, if_neg hq, if_neg hq, if_neg hn, if_neg hn]
          exact ⟨-1, κ, μ, rfl, rfl, A, rfl, hR⟩
    · rw [if_pos hi, if_pos hi, if_neg hj, if_neg hj]
      exact ⟨-1, κ, μ, rfl, rfl, A, rfl, hR⟩
  · rw [if_neg hi, if_neg hi]
    exact ⟨-1, κ, μ, rfl, rfl, A, rfl, hR⟩
