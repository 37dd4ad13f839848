/-! feed, end, force, letter, habit, seed -/
theorem byte_eq (a : Int32) {s : Nat} (hs : s ≤ 24) : (a >>> (nI s &&& 31)).toInt8 = (((a.toUInt32 >>> ((nI s).toUInt32 &&& Int32.toUInt32 31)).toInt32) &&& 255).toInt8 := by
  apply Int8.toBitVec_inj.mp
  rw [Int32.toBitVec_toInt8, Int32.toBitVec_toInt8]
  apply BitVec.eq_of_getLsbD_eq
  intro i hi
  rw [BitVec.getLsbD_signExtend, BitVec.getLsbD_signExtend, if_pos (by omega), if_pos (by omega)]
  have e1 : (a >>> (nI s &&& 31)).toBitVec.getLsbD i = bt a (s + i) := by
    have := b_sshr s (by omega) a (i := i) (by omega)
    rw [if_pos (by omega)] at this
    exact this
  have e2 : (((a.toUInt32 >>> ((nI s).toUInt32 &&& Int32.toUInt32 31)).toInt32) &&& 255).toBitVec.getLsbD i = bt a (s + i) := by
    have h1 := b_and ((a.toUInt32 >>> ((nI s).toUInt32 &&& Int32.toUInt32 31)).toInt32) 255 i
    rw [b_ushr s (by omega), b_255] at h1
    exact h1.trans (by simp [hi])
  rw [e1, e2]
/-- the tape has t bytes -/
def Tq (κ : Cz) (A : Nat → Nat) (μ : Mz) (t : Nat) : Prop := fi κ (A 0) 1 = nI t ∧ gi 0 μ = nI t ∧ ∀ i, i < t → ∃ v, v < 256 ∧ ai κ (A 1) i = nI v ∧ ga 0 μ i = (nI v).toInt8.toInt32
def T1 (k : Nat) : Prop := k = 0
theorem put1 (N n : Nat) {A : Nat → Nat} {κ : Cz} {μ : Mz} {t s : Nat} (a : Int32) (hs : Sh κ A) (hT : Tq κ A μ t) (ht : t < 400) (hs24 : s ≤ 24) : ∃ κ1 μ1, b_ErrataRow_putBytes_3 N (n + 1) (A 0) a (nI s) κ = b_ErrataRow_putBytes_3 N n (A 0) a (nI s + (-8)) κ1 ∧ b12_four_3 N (n + 1) a (nI s) μ = b12_four_3 N n a (nI s + (-8)) μ1 ∧ Sh κ1 A ∧ Tq κ1 A μ1 (t + 1) ∧ Chg A (fun r => r ≤ 1) κ κ1 ∧ fi κ1 (A 0) 6 = fi κ (A 0) 6 ∧ MCh T1 T1 μ μ1 := by
  have hA := hs.inj
  obtain ⟨h1, h2, h3⟩ := hT
  obtain ⟨v, hv, ev⟩ := pk_andE ((a.toUInt32 >>> ((nI s).toUInt32 &&& Int32.toUInt32 31)).toInt32) (m := 255) 8 (by decide)
  have eb : (a >>> (nI s &&& 31)).toInt8.toInt32 = (nI v).toInt8.toInt32 := by rw [byte_eq a hs24, ev]
  have g1 : Chg A (fun r => r ≤ 1) κ (sai (A 1) (upd (ai κ (A 1)) t (nI v)) κ) := Chg.sai (L := fun r => r ≤ 1) hA κ (r := 1) (by omega) _
  have g2 : Chg A (fun r => r ≤ 1) κ (sfi (A 0) 1 (nI (t + 1)) (sai (A 1) (upd (ai κ (A 1)) t (nI v)) κ)) := g1.trans (Chg.sfi (L := fun r => r ≤ 1) hA _ (r := 0) (by omega) _ _)
  refine ⟨sfi (A 0) 1 (nI (t + 1)) (sai (A 1) (upd (ai κ (A 1)) t (nI v)) κ), si 0 (nI (t + 1)) (sa 0 (upd (ga 0 μ) t ((nI v).toInt8.toInt32)) μ), ?_, ?_, hs.chg g2, ⟨?_, ?_, ?_⟩, g2, ?_, ?_⟩
  · rw [b_ErrataRow_putBytes_3, if_neg (nI_pos (by omega))]
    simp -implicitDefEqProofs only [hs.top, ck_1, bo_s, lt_s9, h1, inbT ht (by decide), clN (show t < 2147483648 by omega), ev, fi_ai, nI_1]
    rw [if_neg (show ¬ (400 : Int32) ≤ nI t from nI_ge (b := 400) ht (by omega))]
  · rw [b12_four_3, if_neg (nI_pos (by omega))]
    simp -implicitDefEqProofs only [ck_1, lt_s9, h2, inbT ht (by decide), clN (show t < 2147483648 by omega), pk_vb, eb, gi_sa, nI_1]
  · rw [fi_fi, if_pos ⟨rfl, rfl⟩]
  · rw [gi_si]
  · intro i hi
    rw [ai_fi, ai_ai, if_pos rfl, ga_si, ga_sa, upd_at, upd_at]
    by_cases q : i = t
    · rw [if_pos q, if_pos q]
      exact ⟨v, hv, rfl, rfl⟩
    · rw [if_neg q, if_neg q]
      exact h3 i (by omega)
  · rw [fi_fi, if_neg (by simp), fi_ai]
  · exact ⟨fun k hk => by rw [gi_si_ne hk, gi_sa], fun k hk => by rw [ga_si, ga_sa_ne hk], fun k => rfl⟩
theorem put4 (N : Nat) (hN : 20000 ≤ N) {A : Nat → Nat} {κ : Cz} {μ : Mz} {t : Nat} (a : Int32) (hs : Sh κ A) (hT : Tq κ A μ t) (ht : t + 4 ≤ 400) : ∃ κ1 μ1, p_ErrataRow_putBytes N (A 0) a κ = some κ1 ∧ p12_four N a μ = some μ1 ∧ Sh κ1 A ∧ Tq κ1 A μ1 (t + 4) ∧ Chg A (fun r => r ≤ 1) κ κ1 ∧ fi κ1 (A 0) 6 = fi κ (A 0) 6 ∧ MCh T1 T1 μ μ1 := by
  obtain ⟨n, rfl⟩ : ∃ n, N = n + 5 := ⟨N - 5, by omega⟩
  obtain ⟨κ1, μ1, c1, m1, hs1, hT1, g1, f1, mc1⟩ := put1 (n + 5) (n + 4) a hs hT (by omega) (s := 24) (by omega)
  obtain ⟨κ2, μ2, c2, m2, hs2, hT2, g2, f2, mc2⟩ := put1 (n + 5) (n + 3) a hs1 hT1 (by omega) (s := 16) (by omega)
  obtain ⟨κ3, μ3, c3, m3, hs3, hT3, g3, f3, mc3⟩ := put1 (n + 5) (n + 2) a hs2 hT2 (by omega) (s := 8) (by omega)
  obtain ⟨κ4, μ4, c4, m4, hs4, hT4, g4, f4, mc4⟩ := put1 (n + 5) (n + 1) a hs3 hT3 (by omega) (s := 0) (by omega)
  refine ⟨κ4, μ4, ?_, ?_, hs4, hT4, ((g1.trans g2).trans g3).trans g4, f4.trans (f3.trans (f2.trans f1)), ((mc1.trans mc2).trans mc3).trans mc4⟩
  · show b_ErrataRow_putBytes_3 (n + 5) (n + 4 + 1) (A 0) a (nI 24) κ = _
    rw [c1, show nI 24 + (-8) = nI 16 by decide, c2, show nI 16 + (-8) = nI 8 by decide, c3, show nI 8 + (-8) = nI 0 by decide, c4, b_ErrataRow_putBytes_3, if_pos (by decide)]
  · show b12_four_3 (n + 5) (n + 4 + 1) a (nI 24) μ = _
    rw [m1, show nI 24 + (-8) = nI 16 by decide, m2, show nI 16 + (-8) = nI 8 by decide, m3, show nI 8 + (-8) = nI 0 by decide, m4, b12_four_3, if_pos (by decide)]
theorem RelA.tape {A : Nat → Nat} {κ κ1 : Cz} {μ μ1 : Mz} (hR : RelA A κ μ) (g : Chg A (fun r => r ≤ 1) κ κ1) (h6 : fi κ1 (A 0) 6 = fi κ (A 0) 6) (mc : MCh T1 T1 μ μ1) (t : Tp κ1 A μ1) : RelA A κ1 μ1 := by
  have i : ∀ k, k ≠ 0 → gi k μ1 = gi k μ := mc.1
  have a : ∀ k, k ≠ 0 → ga k μ1 = ga k μ := mc.2.1
  refine hR.gen g.ch (fun r z => Or.inl z) (i 1 (by decide)) (i 13 (by decide)) (a 1 (by decide)) (a 3 (by decide)) (a 4 (by decide)) (a 17 (by decide)) (a 18 (by decide)) (a 19 (by decide)) (a 20 (by decide)) h6 t ?_ ?_ ?_ ?_ (hR.hy.ch g.ch (by omega) (fun q z1 z2 z3 => by omega) (i 16 (by decide)) (a 8 (by decide)))
  · rw [a 7 (by decide), i 11 (by decide), i 12 (by decide)]
    exact hR.wd.ch g.ch (fun r z1 z2 z3 => by omega)
  · rw [a 7 (by decide)]; exact hR.ok
  · rw [i 11 (by decide), i 1 (by decide)]; exact hR.fo
  · rw [i 12 (by decide)]; exact hR.xx
theorem sm_feed (N : Nat) (hN : 20000 ≤ N) (x0 : Nat) : Sm_feed N x0 (Rel x0) := by
  rintro κ μ a1 a2 a3 a4 a5 ⟨A, rfl, hR⟩
  have hs := hR.sh
  obtain ⟨t, t1, t2, t3, t4⟩ := hR.tp
  have e20 : nI t + 20 = nI (t + 20) := nI_add t 20
  unfold p_ErrataRow_feed p12_feed
  rw [t2, t3, e20]
  by_cases hb : t + 20 ≤ 400
  · rw [if_pos (show nI (t + 20) ≤ 400 from nI_le (a := t + 20) (b := 400) hb (by omega)), if_pos (show nI (t + 20) ≤ 400 from nI_le (a := t + 20) (b := 400) hb (by omega))]
    obtain ⟨κ1, μ1, c1, m1, hs1, hT1, g1, f1, mc1⟩ := put4 N hN a1 hs (t := t) ⟨t2, t3, t4⟩ (by omega)
    obtain ⟨κ2, μ2, c2, m2, hs2, hT2, g2, f2, mc2⟩ := put4 N hN a2 hs1 hT1 (by omega)
    obtain ⟨κ3, μ3, c3, m3, hs3, hT3, g3, f3, mc3⟩ := put4 N hN a3 hs2 hT2 (by omega)
    obtain ⟨κ4, μ4, c4, m4, hs4, hT4, g4, f4, mc4⟩ := put4 N hN a4 hs3 hT3 (by omega)
    obtain ⟨κ5, μ5, c5, m5, hs5, hT5, g5, f5, mc5⟩ := put4 N hN a5 hs4 hT4 (by omega)
    simp -implicitDefEqProofs only [hs.top, hs1.top, hs2.top, hs3.top, hs4.top, hs5.top, ck_1, bo_s, c1, c2, c3, c4, c5, m1, m2, m3, m4, m5, hT5.1, hT5.2.1]
    refine ⟨_, κ5, μ5, rfl, rfl, A, rfl, hR.tape ((((g1.trans g2).trans g3).trans g4).trans g5) (f5.trans (f4.trans (f3.trans (f2.trans f1)))) ((((mc1.trans mc2).trans mc3).trans mc4).trans mc5) ⟨t + 4 + 4 + 4 + 4 + 4, by omega, hT5⟩⟩
  · rw [if_neg (show ¬ nI (t + 20) ≤ 400 from nI_ge (b := t + 20) (a := 400) (by omega) (by omega)), if_neg (show ¬ nI (t + 20) ≤ 400 from nI_ge (b := t + 20) (a := 400) (by omega) (by omega))]
    simp -implicitDefEqProofs only [hs.top, ck_1]
    exact ⟨-1, κ, μ, rfl, rfl, A, rfl, hR⟩
theorem sm_end (N : Nat) (x0 : Nat) : Sm_end N x0 (Rel x0) := by
  rintro κ μ a1 ⟨A, rfl, hR⟩
  have hs := hR.sh
  have hA := hs.inj
  obtain ⟨t, t1, t2, t3, t4⟩ := hR.tp
  unfold p_ErrataRow_end p12_end
  simp -implicitDefEqProofs only [hs.top, ck_1, t2, t3, lt_s9]
  by_cases h0 : a1 < 0
  · rw [if_pos h0, if_pos h0]
    exact ⟨-1, κ, μ, rfl, rfl, A, rfl, hR⟩
  · rw [if_neg h0, if_neg h0]
    by_cases h1 : a1 ≤ nI t
    · rw [if_pos h1, if_pos h1]
      obtain ⟨j, hj, rfl⟩ := nI_of h0
      have hjt : j ≤ t := (nI_leI hj (by omega)).mp h1
      refine ⟨_, _, _, rfl, rfl, A, rfl, hR.tape (Chg.sfi (L := fun r => r ≤ 1) hA κ (r := 0) (by omega) _ _) (by rw [fi_fi, if_neg (by simp)]) ⟨fun k hk => gi_si_ne hk _ _, fun k hk => rfl, fun k => rfl⟩ ⟨j, by omega, by rw [fi_fi, if_pos ⟨rfl, rfl⟩], gi_si _ _ _, fun i hi => ?_⟩⟩
      rw [ai_fi, ga_si]
      exact t4 i (by omega)
    · rw [if_neg h1, if_neg h1]
      exact ⟨-1, κ, μ, rfl, rfl, A, rfl, hR⟩
/-- the World changes, no act -/
theorem RelA.world {A : Nat → Nat} {κ κ1 : Cz} {μ μ1 : Mz} (hR : RelA A κ μ) (g : Chg A (fun r => 20 ≤ r ∧ r ≤ 36) κ κ1) (mc : MCh (fun k => k = 11 ∨ k = 12) (fun k => k = 7) μ μ1) (w : Wd κ1 A 20 (ga 7 μ1) (gi 11 μ1) (gi 12 μ1)) (o : OkW (ga 7 μ1)) (f : Fo (gi 11 μ1) (gi 1 μ)) (x : ∃ x, x < 2 ^ 31 ∧ gi 12 μ1 = nI x) : RelA A κ1 μ1 := by
  have i : ∀ k, ¬ (k = 11 ∨ k = 12) → gi k μ1 = gi k μ := mc.1
  have a : ∀ k, k ≠ 7 → ga k μ1 = ga k μ := mc.2.1
  refine hR.gen g.ch (fun r z => Or.inr (Or.inl z)) (i 1 (by decide)) (i 13 (by decide)) (a 1 (by decide)) (a 3 (by decide)) (a 4 (by decide)) (a 17 (by decide)) (a 18 (by decide)) (a 19 (by decide)) (a 20 (by decide)) (by rw [g.fi (by omega)]) (hR.tp.ch (by rw [g.fi (by omega)]) (g.ai (by omega)) (i 0 (by decide)) (a 0 (by decide))) w o ?_ x (hR.hy.ch g.ch (by omega) (fun q z1 z2 z3 => by omega) (i 16 (by decide)) (a 8 (by decide)))
  rw [i 1 (by decide)]; exact f
theorem sm_force (N : Nat) (x0 : Nat) : Sm_force N x0 (Rel x0) := by
  rintro κ μ a1 ⟨A, rfl, hR⟩
  have hs := hR.sh
  have hA := hs.inj
  obtain ⟨R, r1, r2, r3, r4⟩ := hR.rl
  have hw := hR.wd
  have h3 : fi κ (A 20) 3 = gi 11 μ := hw.2.2.2.2.1
  have done : ∀ f : Int32, Fo f (gi 1 μ) → RelA A (sfi (A 20) 3 f κ) (si 11 f μ) := by
    intro f hf
    have g : Chg A (fun r => r = 20) κ (sfi (A 20) 3 f κ) := Chg.sfi (L := fun r => r = 20) hA κ (r := 20) rfl _ _
    refine hR.world (g.mono (fun r z => by omega)) ⟨fun k hk => gi_si_ne (fun z => hk (Or.inl z)) _ _, fun k hk => rfl, fun k => rfl⟩ ⟨?_, ?_, ?_, ?_, ?_, ?_⟩ hR.ok (by rw [gi_si]; exact hf) hR.xx
    · exact hw.1.chg g (fun r z1 z2 z3 => by omega)
    · exact hw.2.1.chg g (fun r z1 z2 z3 => by omega)
    · exact hw.2.2.1.chg g (fun r z1 z2 z3 => by omega)
    · exact hw.2.2.2.1.chg g (fun r z1 z2 z3 => by omega)
    · rw [fi_fi, if_pos ⟨rfl, rfl⟩, gi_si]
    · rw [fi_fi, if_neg (by simp), gi_si_ne (by decide)]; exact hw.2.2.2.2.2
  unfold p_ErrataRow_force p12_force p12_isRule
  simp -implicitDefEqProofs only [hs.top, hs.w20, ck_1, bo_s, lt_s9, h3, r2, r3]
  by_cases h1 : a1 = -1
  · subst h1
    rw [if_neg (by decide), if_pos (show (-1 : Int32) < nI R from Int32.lt_of_lt_of_le (show (-1 : Int32) < 0 by decide) (nI_pos' (by omega))), if_pos rfl]
    exact ⟨_, _, _, rfl, rfl, A, rfl, done _ (Or.inl rfl)⟩
  · rw [if_neg h1]
    by_cases h0 : a1 < 0
    · have hlt : a1 < -1 := by
        have e1 := Int32.lt_iff_toInt_lt.mp h0
        have e2 : a1.toInt ≠ (-1 : Int32).toInt := fun z => h1 (Int32.toInt_inj.mp z)
        apply Int32.lt_iff_toInt_lt.mpr
        have e3 : (-1 : Int32).toInt = -1 := by decide
        have e4 : (0 : Int32).toInt = 0 := by decide
        omega
      rw [if_pos hlt, if_pos h0, bd_s, if_pos rfl]
      exact ⟨-2, κ, μ, rfl, rfl, A, rfl, hR⟩
    · obtain ⟨j, hj, rfl⟩ := nI_of h0
      have hn : ¬ nI j < -1 := fun z => h0 (Int32.lt_trans z (by decide))
      rw [if_neg hn, if_neg h0]
      by_cases hjR : j < R
      · rw [if_pos (nI_lt hjR (by omega)), if_neg (nI_ge hjR (by omega)), bd_s, if_neg (by decide)]
        exact ⟨_, _, _, rfl, rfl, A, rfl, done _ (Or.inr ⟨j, by omega, rfl, by rw [r3]; exact nI_lt hjR (by omega)⟩)⟩
      · rw [if_neg (nI_nlt (by omega) hj), if_pos (nI_le (by omega) hj), bd_s, if_pos rfl]
        exact ⟨-2, κ, μ, rfl, rfl, A, rfl, hR⟩
theorem sm_seed (N : Nat) (x0 : Nat) : Sm_seed N x0 (Rel x0) := by
  rintro κ μ a1 ⟨A, rfl, hR⟩
  have hs := hR.sh
  have hA := hs.inj
  have hw := hR.wd
  have h4 : fi κ (A 20) 4 = gi 12 μ := hw.2.2.2.2.2
  unfold p_ErrataRow_seed p12_seed
  simp -implicitDefEqProofs only [hs.top, hs.w20, ck_1, bo_s, lt_s9, h4]
  by_cases h0 : 0 ≤ a1
  · rw [if_pos h0, if_pos h0]
    obtain ⟨j, hj, rfl⟩ := nI_of (Int32.not_lt.mpr h0)
    have g : Chg A (fun r => r = 20) κ (sfi (A 20) 4 (nI j) κ) := Chg.sfi (L := fun r => r = 20) hA κ (r := 20) rfl _ _
    refine ⟨_, _, _, rfl, rfl, A, rfl, hR.world (g.mono (fun r z => by omega)) ⟨fun k hk => gi_si_ne (fun z => hk (Or.inr z)) _ _, fun k hk => rfl, fun k => rfl⟩ ⟨?_, ?_, ?_, ?_, ?_, ?_⟩ hR.ok (by rw [gi_si_ne (by decide)]; exact hR.fo) ⟨j, hj, gi_si _ _ _⟩⟩
    · exact hw.1.chg g (fun r z1 z2 z3 => by omega)
    · exact hw.2.1.chg g (fun r z1 z2 z3 => by omega)
    · exact hw.2.2.1.chg g (fun r z1 z2 z3 => by omega)
    · exact hw.2.2.2.1.chg g (fun r z1 z2 z3 => by omega)
    · rw [fi_fi, if_neg (by simp), gi_si_ne (by decide)]; exact hw.2.2.2.2.1
    · rw [fi_fi, if_pos ⟨rfl, rfl⟩, gi_si]
  · rw [if_neg h0, if_neg h0]
    exact ⟨-1, κ, μ, rfl, rfl, A, rfl, hR⟩
