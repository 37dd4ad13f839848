/-! where to look next -/
def cn (P : Nat → Bool) : Nat → Nat
  | 0 => 0
  | n + 1 => cn P n + if P n = true then 1 else 0
theorem cn_le (P : Nat → Bool) : ∀ n, cn P n ≤ n
  | 0 => Nat.le_refl 0
  | n + 1 => by
    have := cn_le P n
    rw [cn]
    split <;> omega
theorem cn_pos (P : Nat → Bool) : ∀ n, 0 < cn P n → ∃ j, j < n ∧ P j = true
  | 0, h => absurd h (Nat.lt_irrefl 0)
  | n + 1, h => by
    rw [cn] at h
    by_cases z : P n = true
    · exact ⟨n, by omega, z⟩
    · rw [if_neg z] at h
      obtain ⟨j, j1, j2⟩ := cn_pos P n h
      exact ⟨j, by omega, j2⟩
theorem cn_ge (P : Nat → Bool) : ∀ n j, j < n → P j = true → 0 < cn P n
  | 0, j, h, _ => absurd h (Nat.not_lt_zero j)
  | n + 1, j, h, hp => by
    rw [cn]
    by_cases z : j = n
    · rw [← z, if_pos hp]; omega
    · have := cn_ge P n j (by omega) hp
      omega
theorem cn_cong {P Q : Nat → Bool} : ∀ n, (∀ j, j < n → P j = Q j) → cn P n = cn Q n
  | 0, _ => rfl
  | n + 1, h => by rw [cn, cn, cn_cong n (fun j hj => h j (by omega)), h n (by omega)]
theorem pkN_dig (v : Nat → Nat) (hv : ∀ k, k < 10 → v k < 8) : ∀ n, n ≤ 10 → ∀ l, l < n → pkN v n / 8 ^ (n - 1 - l) % 8 = v l
  | 0, _, l, h => absurd h (Nat.not_lt_zero l)
  | n + 1, hn, l, hl => by
    have hvn := hv n (by omega)
    by_cases z : l = n
    · subst z
      rw [pkN, show l + 1 - 1 - l = 0 by omega, Nat.pow_zero, Nat.div_one]
      omega
    · have ih := pkN_dig v hv n (by omega) l (by omega)
      rw [pkN, show n + 1 - 1 - l = (n - 1 - l) + 1 by omega, Nat.pow_succ, Nat.mul_comm (8 ^ (n - 1 - l)) 8, ← Nat.div_div_eq_div_mul, show (pkN v n * 8 + v n) / 8 = pkN v n by omega]
      exact ih
theorem c_unpacked (N : Nat) {S : Nat → Int32} (hp : PV S) {l : Nat} (hl : l < 10) (κ : Cz) : p_ErrataRow_unpacked N (nI (pkN (dg S) 10)) (nI l) κ = some (S (13 + l), κ) := by
  have hlt := pkN_lt (v := dg S) (fun k hk => (dg_8 hp hk).1) 10 (by omega)
  have hd := pkN_dig (dg S) (fun k hk => (dg_8 hp hk).1) 10 (by omega) l hl
  have e9 : (9 : Int32) - nI l = nI (9 - l) := pk_sub (a := 9) (by omega)
  have e3 : (3 : Int32) * nI (9 - l) = nI (3 * (9 - l)) := pk_mul 3 _
  unfold p_ErrataRow_unpacked
  rw [e9, e3, pk_ushrN (show pkN (dg S) 10 < 2 ^ 32 by omega) (nI (3 * (9 - l))) (3 * (9 - l)) (s_u _ (by omega))]
  have hle : pkN (dg S) 10 / 2 ^ (3 * (9 - l)) ≤ pkN (dg S) 10 := Nat.div_le_self _ _
  rw [pk_andN (show pkN (dg S) 10 / 2 ^ (3 * (9 - l)) < 2 ^ 32 by omega) 3 (by decide), Nat.pow_mul, show (2 : Nat) ^ 3 = 8 by decide]
  rw [show 10 - 1 - l = 9 - l by omega] at hd
  rw [hd, ← (dg_8 hp hl).2]
theorem goOn_kit (N : Nat) (hN : 20000 ≤ N) {A : Nat → Nat} {c h e n : Nat} (hn : n ≤ 1000) (he : e ≤ 1000) {κ : Cz} {μ : Mz} (hT : TR A κ μ c h e) : p_ErrataRow_goOn N (A 0) (nI n) κ = some (Kit N A n κ) := by
  have L := upL n (fun f i => ∀ (κ : Cz) (μ : Mz), TR A κ μ c h (e + i) → b_ErrataRow_goOn_2 N f (A 0) (nI n) (nI i) κ = some (Kit N A (n - i) κ)) (by
    intro f κ μ hT
    rw [b_ErrataRow_goOn_2, if_pos (nI_le (Nat.le_refl n) (by omega)), Nat.sub_self]
    rfl) (by
    intro f i hi ih κ μ hT
    have hs := hT.1
    obtain ⟨m, κ1, μ1, p1, p2, hT1, -⟩ := tr_pass N (by omega) hT (by omega)
    rw [b_ErrataRow_goOn_2, if_neg (nI_ge hi (by omega))]
    simp -implicitDefEqProofs only [hs.top, hs.pr, ck_1, bo_s, bd_s, p1, lt_s9, nI_1]
    rw [ih κ1 μ1 hT1, show n - i = (n - (i + 1)) + 1 by omega]
    show _ = some (Kit N A (n - (i + 1)) (stepK N A κ))
    rw [stepK_s p1]) N 0 (by omega) (by omega) κ μ hT
  rw [nI_0] at L
  exact L
/-- the puts of those by which the notes are so: m of them are kept -/
def Kpt (κ : Cz) (A : Nat → Nat) (Y : Nat → Nat → Int32) (m : Nat) : Prop := ∀ j, j < m → PV (Y j) ∧ ai κ (A 71) j = nI (pkN (dg (Y j)) 10)
theorem c_keepPuts (N : Nat) (hN : 20000 ≤ N) {A : Nat → Nat} {κ : Cz} {μ0 : Mz} {c h e q nn R t : Nat} (hR : RelA A κ μ0) (hO : OkV (ga 7 μ0) c h e q nn) (hb : ga 7 μ0 0 = 1) (hR6 : R ≤ 6) (hRR : gi 1 μ0 = nI R) (hR0 : fi κ (A 0) 6 = nI R) (ht : t ≤ 60) : ∃ (κ1 : Cz) (Y : Nat → Nat → Int32), p_ErrataRow_keepPutsOfRuled N (A 0) (nI t) κ = some (nI (cn (FT N A κ) (R + 1)), κ1) ∧ RelA A κ1 μ0 ∧ Kpt κ1 A Y (cn (FT N A κ) (R + 1)) ∧ ∀ k, k < c → ∀ p : Int32, cn (fun j => decide (Y j (13 + k) = p)) (cn (FT N A κ) (R + 1)) = cn (fun r => FT N A κ r && decide (VLs N A κ r t k = p)) (R + 1) := by
  have hc10 : c ≤ 10 := hO.1
  have L := upL (R + 1) (fun f i => ∀ (κ' : Cz) (Y : Nat → Nat → Int32), RelA A κ' μ0 → Kpt κ' A Y (cn (FT N A κ) i) → (∀ k, k < c → ∀ p : Int32, cn (fun j => decide (Y j (13 + k) = p)) (cn (FT N A κ) i) = cn (fun r => FT N A κ r && decide (VLs N A κ r t k = p)) i) → ∃ (κ1 : Cz) (Y : Nat → Nat → Int32), b_ErrataRow_keepPutsOfRuled_4 N f (A 0) (nI t) (nI (cn (FT N A κ) i)) (frI i) κ' = some (nI (cn (FT N A κ) (R + 1)), κ1) ∧ RelA A κ1 μ0 ∧ Kpt κ1 A Y (cn (FT N A κ) (R + 1)) ∧ ∀ k, k < c → ∀ p : Int32, cn (fun j => decide (Y j (13 + k) = p)) (cn (FT N A κ) (R + 1)) = cn (fun r => FT N A κ r && decide (VLs N A κ r t k = p)) (R + 1)) (by
    intro f κ' Y hR' hY hC
    have hs' := hR'.sh
    obtain ⟨R2, s1, s2, s3, s4⟩ := hR'.rl
    have e2 : R2 = R := (nI_eq (by omega) (by omega)).mp (s3.symm.trans hRR)
    subst e2
    refine ⟨κ', Y, ?_, hR', hY, hC⟩
    rw [b_ErrataRow_keepPutsOfRuled_4]
    simp -implicitDefEqProofs only [hs'.top, ck_1, s2]
    rw [if_pos (show nI R2 ≤ frI (R2 + 1) from by unfold frI; rw [if_neg (by omega), Nat.add_sub_cancel]; exact nI_le (Nat.le_refl _) (by omega))]) (by
    intro f i hi ih κ' Y hR' hY hC
    have hs' := hR'.sh
    have hA := hs'.inj
    obtain ⟨R2, s1, s2, s3, s4⟩ := hR'.rl
    have e2 : R2 = R := (nI_eq (by omega) (by omega)).mp (s3.symm.trans hRR)
    subst e2
    have hm := cn_le (FT N A κ) i
    have hlt : ¬ nI R2 ≤ frI i := by
      unfold frI
      by_cases z : i = 0
      · rw [if_pos z]
        exact fun y => absurd (Int32.le_trans (nI_pos' (show R2 < 2 ^ 31 by omega)) y) (by decide)
      · rw [if_neg z]; exact nI_ge (by omega) (by omega)
    have ef : frI i + 1 = frI (i + 1) := by
      unfold frI
      by_cases z : i = 0
      · subst z; decide
      · obtain ⟨g, rfl⟩ : ∃ g, i = g + 1 := ⟨i - 1, by omega⟩
        rw [if_neg z, if_neg (by omega), Nat.add_sub_cancel, nI_1]
        rfl
    obtain ⟨κ1, κ2, e1, hs1, e2, g2⟩ := ft_class N hN hR hR' hO hb hR6 hRR (show i ≤ R2 by omega)
    have hR2 : RelA A κ2 μ0 := hR'.ch (g2.mono DsLp) (QM.refl μ0)
    have hs2 := hR2.sh
    have g71 : ai κ2 (A 71) = ai κ' (A 71) := g2.ai (by unfold Ds Lp; omega)
    have hY2 : Kpt κ2 A Y (cn (FT N A κ) i) := fun j hj => ⟨(hY j hj).1, by rw [g71]; exact (hY j hj).2⟩
    rw [b_ErrataRow_keepPutsOfRuled_4]
    simp -implicitDefEqProofs only [hs'.top, ck_1, s2, bo_s, bd_s, e1, hs1.top, e2, ite10, lt_s9, ef, nI_1]
    rw [if_neg hlt]
    by_cases hz : FT N A κ i = true
    · rw [if_pos hz]
      obtain ⟨κ3, p3, g3, t3, -, -⟩ := ft_spec N hN hR2 hO hb hR6 hRR (show i ≤ R2 by omega)
      obtain ⟨κ0, p0, g0, t0, -, v0⟩ := ft_spec N hN hR hO hb hR6 hRR (show i ≤ R2 by omega)
      have hT3 := t3 _ (rdy0 μ0 hR.lf _)
      have hT0 := t0 _ (rdy0 μ0 hR.lf _)
      have hs3 := hT3.1
      obtain ⟨κ4, μ4, p4, -, hT4, g4, -⟩ := tr_go N hN (n := t + 1) (by omega) (by omega) hT3
      have ek : κ4 = Kit N A (t + 1) κ3 := Option.some.inj (p4.symm.trans (goOn_kit N hN (by omega) (by omega) hT3))
      have hs4 := hT4.1
      have hp4 : PV (ga 7 μ4) := hT4.2.2.2.1.2.2.2.2.2.2.2.2.1
      have epk := c_packed N hN (b := 66) hs4.st66 hT4.2.2.1 hp4
      have hv : ∀ k, k < 10 → ga 7 μ4 (13 + k) = VLs N A κ i t k := by
        intro k hk
        rw [v0, ← hT4.2.2.1.2.2.2.1 k hk, ek]
        exact kit_eq N hN (t + 1) 0 κ3 κ0 _ (by omega) hT3 hT0 k hk
      have ecn : cn (FT N A κ) (i + 1) = cn (FT N A κ) i + 1 := by rw [cn, if_pos hz]
      have g5 : Chg A (fun r => r = 71) κ4 (sai (A 71) (upd (ai κ4 (A 71)) (cn (FT N A κ) i) (nI (pkN (dg (ga 7 μ4)) 10))) κ4) := Chg.sai (L := fun r => r = 71) hA κ4 (r := 71) rfl _
      have gg : Ch A Dc κ2 (sai (A 71) (upd (ai κ4 (A 71)) (cn (FT N A κ) i) (nI (pkN (dg (ga 7 μ4)) 10))) κ4) := ((g3.mono Ds_Dc).trans (g4.ch.mono Dc_Lp)).trans (g5.ch.mono (fun r z => by unfold Dc; omega))
      have g714 : ai κ4 (A 71) = ai κ2 (A 71) := (g4.ai (by unfold Lp; omega)).trans (g3.ai (by unfold Ds; omega))
      simp -implicitDefEqProofs only [hs2.top, ck_1, bo_s, bd_s, p3, hs3.top, p4, hs4.top, hs4.tr, epk, lt_s9, inbT (show cn (FT N A κ) i < 61 by omega) (by decide), clN (show cn (FT N A κ) i < 2147483648 by omega)]
      rw [← ecn]
      refine ih _ (fun j => if j = cn (FT N A κ) i then ga 7 μ4 else Y j) (hR2.ch gg (QM.refl μ0)) ?_ ?_
      · intro j hj
        rw [ai_ai, if_pos rfl, upd_at]
        by_cases z : j = cn (FT N A κ) i
        · simp only [z, if_true]
          exact ⟨hp4, trivial⟩
        · simp only [z, if_false]
          rw [g714]
          exact hY2 j (by omega)
      · intro k hk p
        rw [ecn, cn, cn]
        have e1 : cn (fun j => decide ((if j = cn (FT N A κ) i then ga 7 μ4 else Y j) (13 + k) = p)) (cn (FT N A κ) i) = cn (fun j => decide (Y j (13 + k) = p)) (cn (FT N A κ) i) := cn_cong _ (fun j hj => by rw [if_neg (by omega)])
        rw [e1, hC k hk p]
        simp only [if_true, hz, Bool.true_and, hv k (by omega)]
    · rw [if_neg hz]
      have ecn : cn (FT N A κ) (i + 1) = cn (FT N A κ) i := by rw [cn, if_neg hz, Nat.add_zero]
      rw [← ecn]
      refine ih κ2 Y hR2 (by rw [ecn]; exact hY2) (fun k hk p => ?_)
      have hz2 : FT N A κ i = false := by simpa using hz
      rw [ecn, hC k hk p, cn]
      simp only [hz2, Bool.false_and, Bool.false_eq_true, if_false, Nat.add_zero]) N 0 (by omega) (by omega) κ (fun _ => ga 7 μ0) hR (fun j hj => absurd hj (Nat.not_lt_zero j)) (fun k hk p => rfl)
  unfold p_ErrataRow_keepPutsOfRuled
  exact L
