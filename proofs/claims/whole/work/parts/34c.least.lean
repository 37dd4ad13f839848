/-! leastPurse -/
theorem OkS_pu {S : Nat → Int32} {c h e : Nat} (v : Int32) (hO : OkS S c h e) : OkS (pu S v) c h e := by
  obtain ⟨h0, h3, hc, h2, h12, h10, he, h9, hp, hv⟩ := hO
  have o : ∀ {j : Nat}, j ≠ 11 → pu S v j = S j := fun h => pu_o S v h
  refine ⟨by rw [o (by omega)]; exact h0, by rw [o (by omega)]; exact h3, hc, by rw [o (by omega)]; exact h2, h12, by rw [o (by omega)]; exact h10, he, ⟨by rw [o (by omega)]; exact h9.1, fun k hk => by rw [o (by omega)]; exact h9.2 k hk⟩, fun k hk => by rw [o (by omega)]; exact hp k hk, fun k hk => by rw [o (by omega), o (by omega)]; exact hv.1 k hk, fun i hi => by rw [o (by omega), o (by omega)]; exact hv.2 i hi⟩
theorem Sb_pu (S : Nat → Int32) (v : Int32) : Sb S (pu S v) := fun j hj => pu_o S v (by omega)
theorem pass7 (N : Nat) (hN : 401 ≤ N) {A : Nat → Nat} {κ : Cz} {μ : Mz} {S : Nat → Int32} {c h e a b Q : Nat} (hs : Sh κ A) (hB : Bk κ A 21 S) (hS : St κ A 66 S) (hO : OkS S c h e) (he : e + 1 < 2 ^ 30) (hF : RF κ A μ) (hnp : ∀ r, fr κ (A 40) 2 = some (A (300 + 5 * r)) → NoP κ A r) (h7 : ga 7 μ = pu S (nI b)) (hl : fi κ (A 40) 3 = -1) (h13 : gi 13 μ = -1) (ha : S 11 = nI a) (hq : S 1 = nI Q) (hQ : Q ≤ 9) (ha2 : a < 2 ^ 31) (hb2 : b < 2 ^ 31) (hr : Q * 10 ≤ a) : ∃ (m : Int32) (κ1 : Cz) (μ1 : Mz) (K : Nat) (S1 : Nat → Int32), p_Press_printEdition N (A 40) (A 66) κ = some (m, κ1) ∧ p12_passes N μ = some (m, μ1) ∧ St κ1 A 66 S1 ∧ OkS S1 c h (e + 1) ∧ Sb S S1 ∧ S1 11 = nI (a - K) ∧ K ≤ Q * 10 ∧ Chg A (Lp 66) κ κ1 ∧ fi κ1 (A 40) 3 = -1 ∧ MCh Ip Rp μ μ1 ∧ Sb S (ga 7 μ1) ∧ (K ≤ b → ga 7 μ1 = pu S1 (nI (b - K)) ∧ gi 14 μ1 = 0) ∧ (b < K → gi 14 μ1 ≠ 0) := by
  have hb : Hb 66 := by unfold Hb; omega
  have hc : c ≤ 10 := hO.2.2.1
  have hO' := hO
  obtain ⟨h0, h3, -, h2, h12, h10, he3, h9, hp, hv⟩ := hO
  obtain ⟨m, κ1, μ1, e1, e2, g1, mc1, hm⟩ := choice7 N hN (pv := nI b) hb hs hs.st66 hB hS h0 h3 hc h2 h12 h10 (by omega) hF hnp h7
  have h71 : ga 7 μ1 = pu S (nI b) := (mc1.2.1 7 (fun z => z)).trans h7
  have h131 : gi 13 μ1 = -1 := (mc1.1 13 (by decide)).trans h13
  have hs1 := hs.chg g1
  have hl1 : fi κ1 (A 40) 3 = -1 := by rw [g1.fi (by unfold Lc; omega), hl]
  obtain ⟨κ2, e3, hS2, -, -, g2, l2⟩ := c_printWith N (by omega) (lf := -1) hb hs1 (hs.st66.chg g1) (hB.chg g1 Lc.n21) (hS.chg g1 (Lc.nb hb)) h3 hc h2 h12 h10 (by omega) hl1 (fun _ => rfl) h9 m
  have e4 := m_printsE N (by omega) μ1 (c := c) (h := h) (e := e) (by rw [h71]; exact OkS_pu _ hO') hm
  rw [h71, h131] at e4
  obtain ⟨K, k1, -, k3, k4, k5⟩ := ed_pu (h := h) (e := e) (lf := -1) (m := m) hc ha hq hQ ha2 hb2 hr
  refine ⟨m, κ2, mP μ1 (sEd (pu S (nI b)) c h e (-1) m).1 (sEd (pu S (nI b)) c h e (-1) m).2.1 (sEd (pu S (nI b)) c h e (-1) m).2.2, K, (sEd S c h e (-1) m).1, ?_, ?_, hS2, OkS_ed hO' he (-1) m, fun j hj => sEd_o S hc h e (-1) m (by omega), k3, k1, (g1.mono (Lc_Lp 66)).trans g2, l2.trans hl1, ?_, ?_, ?_, ?_⟩
  · unfold p_Press_printEdition
    simp -implicitDefEqProofs only [hs.pr, hs1.pr, ck_1, e1, bd_s, e3, bo_s]
  · unfold p12_passes
    rw [e2, bd_s, e4, bo_s]
  · have mc2 : MCh Ip Rp μ1 (mP μ1 (sEd (pu S (nI b)) c h e (-1) m).1 (sEd (pu S (nI b)) c h e (-1) m).2.1 (sEd (pu S (nI b)) c h e (-1) m).2.2) := ⟨fun k hk => by unfold Ip at hk; exact mP_gi (by omega) (by omega) _ _ _ _, fun k hk => ga_sa_ne hk _ _, fun _ => rfl⟩
    exact (mc1.mono (fun k z => Or.inl z) (fun k z => z.elim)).trans mc2
  · rw [mP_7]
    exact fun j hj => (sEd_o (pu S (nI b)) hc h e (-1) m (by omega)).trans (pu_o S _ (by omega))
  · intro z
    rw [mP_7, mP_14]
    exact k4 z
  · intro z
    rw [mP_14]
    exact k5 z
theorem RF.mc {κ κ1 : Cz} {A : Nat → Nat} {μ μ1 : Mz} {b : Nat} (h : RF κ A μ) (g : Chg A (Lp b) κ κ1) (hb : b + 4 ≤ 300) (m : MCh Ip Rp μ μ1) : RF κ1 A μ1 := h.chg g (fun q z1 z2 z3 => by unfold Lp at z3; omega) (m.1 11 (by unfold Ip; omega)) (m.2.1 1 (by unfold Rp; omega)) (m.2.1 3 (by unfold Rp; omega)) (m.2.1 4 (by unfold Rp; omega))
/-- n editions: the class with a purse that is enough, the reference with b -/
theorem run7 (N : Nat) (hN : 20000 ≤ N) {A : Nat → Nat} {c h Q n : Nat} (hn : n ≤ 1000) (hQ : Q ≤ 9) : ∀ (d i f g : Nat) (κ : Cz) (μ : Mz) (S : Nat → Int32) (a b e : Nat), i + d = n → d < f → d < g → Sh κ A → Bk κ A 21 S → St κ A 66 S → OkS S c h e → e ≤ 100000 + i → RF κ A μ → (∀ r, fr κ (A 40) 2 = some (A (300 + 5 * r)) → NoP κ A r) → ga 7 μ = pu S (nI b) → fi κ (A 40) 3 = -1 → gi 13 μ = -1 → S 11 = nI a → S 1 = nI Q → a < 2 ^ 31 → b < 2 ^ 31 → 90 * d ≤ a → ∃ (κ1 : Cz) (a1 : Nat) (μ1 : Mz), b_ErrataRow_goOn_2 N f (A 0) (nI n) (nI i) κ = some κ1 ∧ fi κ1 (A 66) 3 = nI a1 ∧ a1 ≤ a ∧ Chg A (Lp 66) κ κ1 ∧ b12_isAllPaid_2 N g (nI n) (nI i) μ = some (if a - a1 ≤ b then 1 else 0, μ1) ∧ MCh Ip Rp μ μ1 ∧ Sb S (ga 7 μ1)
  | 0, i, f, g, κ, μ, S, a, b, e, hi, hf, hg, hs, hB, hS, hO, he, hF, hnp, h7, hl, h13, ha, hq, ha2, hb2, hr => by
    obtain ⟨f, rfl⟩ : ∃ q, f = q + 1 := ⟨f - 1, by omega⟩
    obtain ⟨g, rfl⟩ : ∃ q, g = q + 1 := ⟨g - 1, by omega⟩
    have hin : i = n := by omega
    subst hin
    refine ⟨κ, a, μ, ?_, hS.2.1.trans ha, Nat.le_refl _, Chg.refl _ _ _, ?_, MCh.refl _ _ _, by rw [h7]; exact Sb_pu _ _⟩
    · rw [b_ErrataRow_goOn_2, if_pos (nI_le (Nat.le_refl i) (by omega))]
    · rw [b12_isAllPaid_2, if_pos (nI_le (Nat.le_refl i) (by omega)), if_pos (by omega)]
  | d + 1, i, f, g, κ, μ, S, a, b, e, hi, hf, hg, hs, hB, hS, hO, he, hF, hnp, h7, hl, h13, ha, hq, ha2, hb2, hr => by
    obtain ⟨f, rfl⟩ : ∃ q, f = q + 1 := ⟨f - 1, by omega⟩
    obtain ⟨g, rfl⟩ : ∃ q, g = q + 1 := ⟨g - 1, by omega⟩
    obtain ⟨m, κ1, μ1, K, S1, e1, e2, hS1, hO1, sb1, p1, hK, g1, l1, mc1, sb2, k1, k2⟩ := pass7 N (by omega) hs hB hS hO (by omega) hF hnp h7 hl h13 ha hq hQ ha2 hb2 (by omega)
    have hs1 := hs.chg g1
    have hF1 := hF.mc g1 (by omega) mc1
    have hB1 : Bk κ1 A 21 S1 := (hB.chg g1 (fun q z1 z2 z3 => by unfold Lp at z3; omega)).congr (fun j hj => (sb1 j hj).symm)
    have hnp1 : ∀ r, fr κ1 (A 40) 2 = some (A (300 + 5 * r)) → NoP κ1 A r := fun r z => (hnp r (by rw [← g1.fr]; exact z)).chg g1 (fun q z1 z2 z3 => by unfold Lp at z3; omega)
    have h131 : gi 13 μ1 = -1 := (mc1.1 13 (by unfold Ip; omega)).trans h13
    have q1 : S1 1 = nI Q := (sb1 1 (by omega)).trans hq
    have st : ∀ (κ2 : Cz), b_ErrataRow_goOn_2 N f (A 0) (nI n) (nI (i + 1)) κ1 = some κ2 → b_ErrataRow_goOn_2 N (f + 1) (A 0) (nI n) (nI i) κ = some κ2 := by
      intro κ2 h2
      rw [b_ErrataRow_goOn_2, if_neg (nI_ge (show i < n by omega) (by omega))]
      simp -implicitDefEqProofs only [hs.top, hs.pr, ck_1, bo_s, e1, bd_s, lt_s9, nI_1]
      exact h2
    by_cases hb : K ≤ b
    · obtain ⟨k3, k4⟩ := k1 hb
      obtain ⟨κ2, a1, μ2, e3, f3, a3, g3, e4, mc4, sb4⟩ := run7 N hN hn hQ d (i + 1) f g κ1 μ1 S1 (a - K) (b - K) (e + 1) (by omega) (by omega) (by omega) hs1 hB1 hS1 hO1 (by omega) hF1 hnp1 k3 l1 h131 p1 q1 (by omega) (by omega) (by omega)
      refine ⟨κ2, a1, μ2, st κ2 e3, f3, by omega, g1.trans g3, ?_, mc1.trans mc4, sb1.trans sb4⟩
      rw [b12_isAllPaid_2, if_neg (nI_ge (show i < n by omega) (by omega)), e2, bd_s, if_pos k4, lt_s9, nI_1, e4]
      have : (a - K - a1 ≤ b - K) ↔ (a - a1 ≤ b) := by omega
      simp only [this]
    · have k4 := k2 (by omega)
      obtain ⟨κ2, a1, μ2, e3, f3, a3, g3, -, -, -⟩ := run7 N hN hn hQ d (i + 1) f g κ1 (sa 7 (pu S1 (nI 0)) μ1) S1 (a - K) 0 (e + 1) (by omega) (by omega) (by omega) hs1 hB1 hS1 hO1 (by omega) (hF1.chg (Chg.refl _ (fun _ => False) _) (fun q _ _ z => z) rfl (ga_sa_ne (by decide) _ _) (ga_sa_ne (by decide) _ _) (ga_sa_ne (by decide) _ _)) hnp1 (ga_sa _ _ _) l1 h131 p1 q1 (by omega) (by omega) (by omega)
      refine ⟨κ2, a1, μ1, st κ2 e3, f3, by omega, g1.trans g3, ?_, mc1, sb2⟩
      rw [b12_isAllPaid_2, if_neg (nI_ge (show i < n by omega) (by omega)), e2, bd_s, if_neg k4, if_neg (by omega)]
theorem c_asksFor (N : Nat) (hN : 20000 ≤ N) {A : Nat → Nat} {κ : Cz} {μ : Mz} {r : Nat} (hR : RuC κ A μ r) : ∃ v, p_Rule_asksFor N (A (300 + 5 * r)) 7 κ = some (v, κ) ∧ (v = 0 → NoP κ A r) := by
  obtain ⟨nc, k, g', s, en, hr, hnc, -⟩ := hR
  have L : ∀ (d i n : Nat), i + d = nc → d < n → (∀ j, j < i → ¬ ai κ (A (300 + 5 * r + 1)) j = -8) → ∃ v, b_Rule_asksFor_2 N n (A (300 + 5 * r)) 7 (nI i) κ = some (v, κ) ∧ (v = 0 → NoP κ A r) := by
    intro d
    induction d with
    | zero =>
      intro i n hi hn hj
      obtain ⟨n, rfl⟩ : ∃ q, n = q + 1 := ⟨n - 1, by omega⟩
      have e : i = nc := by omega
      subst e
      rw [b_Rule_asksFor_2]
      simp -implicitDefEqProofs only [hr, ck_1, bo_s]
      rw [if_pos (nI_le (Nat.le_refl i) (by omega))]
      refine ⟨0, rfl, fun _ j hj2 => hj j ?_⟩
      rw [hr.2.2.2.2.2.2.1] at hj2
      exact hj2
    | succ d ih =>
      intro i n hi hn hj
      obtain ⟨n, rfl⟩ : ∃ q, n = q + 1 := ⟨n - 1, by omega⟩
      rw [b_Rule_asksFor_2]
      simp -implicitDefEqProofs only [hr, ck_1, bo_s, inbT (show i < nc by omega) (by omega), clN (show i < 2147483648 by omega)]
      rw [if_neg (nI_ge (show i < nc by omega) (by omega))]
      unfold p_Rule_codeOf
      rw [bd_s, show (-1 : Int32) - 7 = -8 from rfl]
      by_cases z : ai κ (A (300 + 5 * r + 1)) i = -8
      · rw [if_pos z]
        exact ⟨1, rfl, fun y => absurd y ne10⟩
      · rw [if_neg z, lt_s9, nI_1]
        exact ih (i + 1) n (by omega) (by omega) (fun j hj2 => by
          by_cases y : j = i
          · subst y; exact z
          · exact hj j (by omega))
  exact L nc 0 N (by omega) (by omega) (fun j hj => absurd hj (by omega))
