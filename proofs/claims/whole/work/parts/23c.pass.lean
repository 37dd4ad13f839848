/-! an edition: both go on alike -/
def In8 (x : Int32) : Prop := ∃ v : Nat, v < 8 ∧ x = nI v
def PV (S : Nat → Int32) : Prop := ∀ k, k < 10 → In8 (S (13 + k))
def BV (S : Nat → Int32) : Prop := (∀ k, k < 10 → In8 (S (43 + k)) ∧ In8 (S (53 + k))) ∧ ∀ i, i < 12 → In8 (S (73 + 2 * i)) ∧ In8 (S (73 + 2 * i + 1))
/-- said, as a book that was told and its editions leave it: c letters, h habits, edition e -/
def OkS (S : Nat → Int32) (c h e : Nat) : Prop := S 0 = 1 ∧ S 3 = nI c ∧ c ≤ 10 ∧ S 2 = nI h ∧ h ≤ 12 ∧ S 10 = nI e ∧ e < 2 ^ 30 ∧ R9 S ∧ PV S ∧ BV S
theorem sMd_o2 (S : Nat → Int32) {c : Nat} (hc : c ≤ 10) (m : Int32) {j : Nat} (hj : j < 13 ∨ 13 + c ≤ j) : sMd S c m j = S j := by
  unfold sMd
  split
  · rename_i z
    have : m.toNatClampNeg < c := by
      obtain ⟨k, hk, rfl⟩ := nI_of (x := m) (Int32.not_lt.mpr z.1)
      rw [nI_clamp hk]
      exact (nI_ltI hk (by omega)).mp z.2
    rw [upd_at, if_neg (by omega)]
  · rfl
theorem sEd_o (S : Nat → Int32) {c : Nat} (hc : c ≤ 10) (h e : Nat) (lf m : Int32) {j : Nat} (hj : j < 10 ∨ 13 + c ≤ j ∧ j < 23 ∨ 33 ≤ j) : (sEd S c h e lf m).1 j = S j := by
  show upd (payF c (sSlip (sMd S c m) c h e lf m, 0, 0)).1 10 (nI (e + 1)) j = S j
  rw [upd_at, if_neg (by omega), payF_o (by omega) (by omega) c _ (by omega)]
  show sSlip (sMd S c m) c h e lf m j = S j
  rw [sSlip_o _ _ _ _ _ _ (by omega), sMd_o2 S hc m (by omega)]
theorem slip_In8 {S : Nat → Int32} {m f t : Int32} (hp : PV S) (ht : In8 t) : ∀ (d i : Nat), PV (slipG S m f t d i)
  | 0, _ => hp
  | d + 1, i => by
    rw [slipG]
    split
    · exact slip_In8 hp ht d (i + 1)
    · split
      · intro k hk
        rw [upd_at]
        split
        · exact ht
        · exact hp k hk
      · exact slip_In8 hp ht d (i + 1)
theorem PV_md {S : Nat → Int32} {c : Nat} {m : Int32} (hc : c ≤ 10) (hp : PV S) (hv : BV S) : PV (sMd S c m) := by
  intro k hk
  unfold sMd
  split
  · rename_i z
    have : m.toNatClampNeg < c := by
      obtain ⟨k, hk, rfl⟩ := nI_of (x := m) (Int32.not_lt.mpr z.1)
      rw [nI_clamp hk]
      exact (nI_ltI hk (by omega)).mp z.2
    rw [upd_at]
    split
    · exact (hv.1 _ (by omega)).1
    · exact hp k hk
  · exact hp k hk
theorem OkS_ed {S : Nat → Int32} {c h e : Nat} (hO : OkS S c h e) (he : e + 1 < 2 ^ 30) (lf m : Int32) : OkS (sEd S c h e lf m).1 c h (e + 1) := by
  obtain ⟨h0, h3, hc, h2, h12, h10, _, h9, hp, hv⟩ := hO
  have o : ∀ {j : Nat}, (j < 10 ∨ 13 + c ≤ j ∧ j < 23 ∨ 33 ≤ j) → (sEd S c h e lf m).1 j = S j := fun hj => sEd_o S hc h e lf m hj
  have hr : 0 < sRd h ∧ sRd h ≤ 12 := by unfold sRd; split <;> omega
  have hm : e % sRd h < sRd h := Nat.mod_lt _ hr.1
  have hpm := PV_md (m := m) hc hp hv
  refine ⟨(o (by omega)).trans h0, (o (by omega)).trans h3, hc, (o (by omega)).trans h2, h12, ?_, he, ?_, ?_, ?_⟩
  · show upd (payF c (sSlip (sMd S c m) c h e lf m, 0, 0)).1 10 (nI (e + 1)) 10 = _
    rw [upd_at, if_pos rfl]
  · have h91 : R9 (sMd S c m) := ⟨by rw [sMd_o2 S hc m (by omega)]; exact h9.1, fun k hk => by rw [sMd_o2 S hc m (by omega)]; exact h9.2 k hk⟩
    have h92 := R9_payF c (sSlip (sMd S c m) c h e lf m, 0, 0) (R9_slip hc h91)
    refine ⟨?_, fun k hk => ?_⟩
    · show ∃ v : Nat, v ≤ 999 ∧ upd (payF c (sSlip (sMd S c m) c h e lf m, 0, 0)).1 10 (nI (e + 1)) 12 = _
      rw [upd_at, if_neg (by omega)]; exact h92.1
    · show ∃ v : Nat, v ≤ 999 ∧ upd (payF c (sSlip (sMd S c m) c h e lf m, 0, 0)).1 10 (nI (e + 1)) (23 + k) = _
      rw [upd_at, if_neg (by omega)]; exact h92.2 k hk
  · intro k hk
    show In8 (upd (payF c (sSlip (sMd S c m) c h e lf m, 0, 0)).1 10 (nI (e + 1)) (13 + k))
    rw [upd_at, if_neg (by omega), payF_o (by omega) (by omega) c _ (by omega)]
    show In8 (sSlip (sMd S c m) c h e lf m (13 + k))
    unfold sSlip
    split
    · exact hpm k hk
    · refine slip_In8 hpm ?_ c 0 k hk
      rw [sMd_o2 S hc m (by omega)]
      exact (hv.2 _ (by omega)).2
  · refine ⟨fun k hk => ?_, fun i hi => ?_⟩
    · rw [o (by omega), o (by omega)]; exact hv.1 k hk
    · rw [o (by omega), o (by omega)]; exact hv.2 i hi
theorem pay_bits (S : Nat → Int32) : ∀ (n : Nat), (∃ q, (payF n (S, 0, 0)).2.1 = bitsF q n 0) ∧ ∃ q, (payF n (S, 0, 0)).2.2 = bitsF q n 0
  | 0 => ⟨⟨fun _ => false, rfl⟩, ⟨fun _ => false, rfl⟩⟩
  | n + 1 => by
    obtain ⟨⟨q1, h1⟩, ⟨q2, h2⟩⟩ := pay_bits S n
    have up : ∀ (q : Nat → Bool) (v : Bool), ∃ q', bitsF q' (n + 1) 0 = if v then bitsF q n 0 ||| bitI n else bitsF q n 0 := by
      intro q v
      refine ⟨fun j => if j = n then v else q j, ?_⟩
      rw [bitsF, bitsF_cong 0 (q := q) (fun k hk => by rw [if_neg (by omega)])]
      simp
    obtain ⟨a1, b1⟩ := up q1 true
    obtain ⟨a2, b2⟩ := up q1 false
    obtain ⟨a3, b3⟩ := up q2 true
    obtain ⟨a4, b4⟩ := up q2 false
    rw [if_pos rfl] at b1 b3
    rw [if_neg (by decide)] at b2 b4
    rw [payF]
    unfold payStep
    split
    · exact ⟨⟨a2, by rw [b2, h1]⟩, ⟨a4, by rw [b4, h2]⟩⟩
    · split
      · exact ⟨⟨a1, by rw [b1]; show _ ||| _ = _; rw [h1]⟩, ⟨a4, by rw [b4]; exact h2⟩⟩
      · exact ⟨⟨a2, by rw [b2]; exact h1⟩, ⟨a3, by rw [b3]; show _ ||| _ = _; rw [h2]⟩⟩
theorem pay_dis (S : Nat → Int32) : ∀ (n : Nat), n ≤ 10 → ∀ k, bt (payF n (S, 0, 0)).2.1 k = true → bt (payF n (S, 0, 0)).2.2 k = true → False
  | 0, _, k, h1, _ => by
    have : bt (0 : Int32) k = true := h1
    rw [b_0] at this
    cases this
  | n + 1, hn, k, h1, h2 => by
    have ih := pay_dis S n (by omega) k
    obtain ⟨⟨q1, e1⟩, ⟨q2, e2⟩⟩ := pay_bits S n
    have z1 : bt (payF n (S, 0, 0)).2.1 n = false := by rw [e1, bt_bitsF q1 n (by omega)]; simp
    have z2 : bt (payF n (S, 0, 0)).2.2 n = false := by rw [e2, bt_bitsF q2 n (by omega)]; simp
    have zb : k ≠ n → bt (bitI n) k = false := by
      intro hk
      by_cases h32 : k < 32
      · rw [bt_bitI n (by omega) k h32]; simp [hk]
      · exact b_big (by omega)
    rw [payF] at h1 h2
    generalize payF n (S, 0, 0) = z at *
    obtain ⟨T, o, p⟩ := z
    unfold payStep at h1 h2
    dsimp only at h1 h2 ih z1 z2
    by_cases hw : T (13 + n) = T (43 + n)
    · rw [if_pos hw] at h1 h2
      exact ih h1 h2
    · rw [if_neg hw] at h1 h2
      by_cases hp : T 11 < T 1
      · rw [if_pos hp] at h1 h2
        dsimp only at h1 h2
        rw [b_or] at h1
        by_cases hk : k = n
        · subst hk
          rw [z2] at h2
          cases h2
        · rw [zb hk, Bool.or_false] at h1
          exact ih h1 h2
      · rw [if_neg hp] at h1 h2
        dsimp only at h1 h2
        rw [b_or] at h2
        by_cases hk : k = n
        · subst hk
          rw [z1] at h1
          cases h1
        · rw [zb hk, Bool.or_false] at h2
          exact ih h1 h2
theorem m_printsE (N : Nat) (hN : 11 ≤ N) (μ : Mz) {c h e : Nat} (hO : OkS (ga 7 μ) c h e) {m : Int32} (hm : m = -1 ∨ ∃ k, k < c ∧ m = nI k) : p12_prints N m μ = some (mP μ (sEd (ga 7 μ) c h e (gi 13 μ) m).1 (sEd (ga 7 μ) c h e (gi 13 μ) m).2.1 (sEd (ga 7 μ) c h e (gi 13 μ) m).2.2) := by
  obtain ⟨h0, h3, hc, h2, h12, h10, he, _⟩ := hO
  unfold sEd
  rcases hm with rfl | ⟨k, hk, rfl⟩
  · rw [sMd_N]
    exact m_printsN N hN μ h3 hc h0 h2 h12 h10 (by omega)
  · rw [sMd_k _ hk hc]
    exact m_prints N hN μ h3 hc h0 h2 h12 h10 (by omega) hk
/-- what an edition changes in the reference -/
def Ip (k : Nat) : Prop := k = 10 ∨ k = 14 ∨ k = 15
def Rp (k : Nat) : Prop := k = 7
theorem Lc_Lp (b r : Nat) (h : Lc r) : Lp b r := by
  rcases h with h | h
  · exact Or.inr (Or.inl h)
  · exact Or.inr (Or.inr (Or.inr h))
theorem pass_both (N : Nat) (hN : 401 ≤ N) {A : Nat → Nat} {κ : Cz} {μ : Mz} {b c h e : Nat} (hb : Hb b) (hs : Sh κ A) (ht : sSt κ A b) (hB : Bk κ A 21 (ga 7 μ)) (hS : St κ A b (ga 7 μ)) (hO : OkS (ga 7 μ) c h e) (he : e + 1 < 2 ^ 30) (hF : RF κ A μ) (hl : fi κ (A 40) 3 = gi 13 μ) (hl0 : h = 0 → gi 13 μ = -1) : ∃ (m : Int32) (κ1 : Cz) (μ1 : Mz), p_Press_printEdition N (A 40) (A b) κ = some (m, κ1) ∧ p12_passes N μ = some (m, μ1) ∧ St κ1 A b (ga 7 μ1) ∧ OkS (ga 7 μ1) c h (e + 1) ∧ Chg A (Lp b) κ κ1 ∧ MCh Ip Rp μ μ1 ∧ fi κ1 (A 40) 5 = gi 14 μ1 ∧ fi κ1 (A 40) 4 = gi 15 μ1 ∧ fi κ1 (A 40) 3 = fi κ (A 40) 3 ∧ (∀ j, (j < 10 ∨ 13 + c ≤ j ∧ j < 23 ∨ 33 ≤ j) → ga 7 μ1 j = ga 7 μ j) ∧ (m = -1 ∨ ∃ k, k < c ∧ m = nI k) ∧ (∃ q, gi 14 μ1 = bitsF q c 0) ∧ (∃ q, gi 15 μ1 = bitsF q c 0) ∧ ga 7 μ1 = (sEd (ga 7 μ) c h e (gi 13 μ) m).1 ∧ ∀ k, bt (gi 14 μ1) k = true → bt (gi 15 μ1) k = true → False := by
  have hO' := hO
  obtain ⟨h0, h3, hc, h2, h12, h10, he3, h9, hp, hv⟩ := hO
  obtain ⟨m, κ1, μ1, e1, e2, g1, mc1, hm⟩ := choice_both N hN hb hs ht hB hS h0 h3 hc h2 h12 h10 (by omega) hF rfl
  have h7 : ga 7 μ1 = ga 7 μ := mc1.2.1 7 (fun z => z)
  have h13 : gi 13 μ1 = gi 13 μ := mc1.1 13 (by decide)
  have hs1 := hs.chg g1
  have hl1 : fi κ1 (A 40) 3 = gi 13 μ1 := by
    rw [g1.fi (by unfold Lc; omega), hl, h13]
  obtain ⟨κ2, e3, hS2, ho2, hp2, g2, l2⟩ := c_printWith N (by omega) (lf := gi 13 μ1) hb hs1 (ht.chg g1) (hB.chg g1 Lc.n21) (hS.chg g1 (Lc.nb hb)) h3 hc h2 h12 h10 (by omega) hl1 (by rw [h13]; exact hl0) h9 m
  have e4 := m_printsE N (by omega) μ1 (c := c) (h := h) (e := e) (by rw [h7]; exact hO') hm
  rw [h7] at e4
  rw [h13] at e4 hS2 ho2 hp2
  refine ⟨m, κ2, mP μ1 (sEd (ga 7 μ) c h e (gi 13 μ) m).1 (sEd (ga 7 μ) c h e (gi 13 μ) m).2.1 (sEd (ga 7 μ) c h e (gi 13 μ) m).2.2, ?_, ?_, ?_, ?_, (g1.mono (Lc_Lp b)).trans g2, ?_, ?_, ?_, ?_, ?_, hm, ?_, ?_, ?_, ?_⟩
  · unfold p_Press_printEdition
    simp -implicitDefEqProofs only [hs.pr, hs1.pr, ck_1, e1, bd_s, e3, bo_s]
  · unfold p12_passes
    rw [e2, bd_s, e4, bo_s]
  · rw [mP_7]; exact hS2
  · rw [mP_7]; exact OkS_ed hO' he _ _
  · refine MCh.trans (mc1.mono (fun k z => Or.inl z) (fun k z => z.elim)) ⟨fun k hk => ?_, fun k hk => ?_, fun _ => rfl⟩
    · exact mP_gi (fun z => hk (Or.inr (Or.inl z))) (fun z => hk (Or.inr (Or.inr z))) _ _ _ _
    · rw [mP, ga_sa_ne hk]; rfl
  · rw [mP_14]; exact ho2
  · rw [mP_15]; exact hp2
  · rw [l2, g1.fi (by unfold Lc; omega)]
  · intro j hj
    rw [mP_7]; exact sEd_o _ hc h e _ m hj
  · rw [mP_14]; exact (pay_bits _ c).1
  · rw [mP_15]; exact (pay_bits _ c).2
  · rw [mP_7]
  · intro k z1 z2
    rw [mP_14] at z1
    rw [mP_15] at z2
    exact pay_dis _ c hc k z1 z2
