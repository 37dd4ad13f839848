/-! the class: all are paid; the habit; an edition in which m is mended -/
/-- where a State may stand -/
def Hb (b : Nat) : Prop := 25 ≤ b ∧ (b + 4 ≤ 40 ∨ 42 ≤ b) ∧ b + 4 ≤ 300
theorem Hb.n21 {b : Nat} (h : Hb b) : ∀ r, 21 ≤ r → r < 21 + 4 → ¬ Lp b r := by
  intro r h1 h2 z
  unfold Hb at h
  unfold Lp at z
  omega
theorem c_payLoop (N : Nat) {A : Nat → Nat} {b c : Nat} {S T : Nat → Int32} (hb : Hb b) (hc : T 3 = nI c) (hc10 : c ≤ 10) (hT : ∀ j, j < 10 ∨ 43 ≤ j → S j = T j) : ∀ (d i n : Nat) (κ : Cz), i + d = c → d < n → Sh κ A → sSt κ A b → Bk κ A 21 T → St κ A b (payF i (S, 0, 0)).1 → fi κ (A 40) 5 = (payF i (S, 0, 0)).2.1 → fi κ (A 40) 4 = (payF i (S, 0, 0)).2.2 → R9 (payF i (S, 0, 0)).1 → ∃ κ1, b_Press_payAll_12 N n (A 40) (A b) (nI i) κ = some κ1 ∧ St κ1 A b (payF c (S, 0, 0)).1 ∧ fi κ1 (A 40) 5 = (payF c (S, 0, 0)).2.1 ∧ fi κ1 (A 40) 4 = (payF c (S, 0, 0)).2.2 ∧ Chg A (Lp b) κ κ1 ∧ fi κ1 (A 40) 3 = fi κ (A 40) 3 := by
  intro d
  induction d with
  | zero =>
    intro i n κ hi hn hs ht hB hS ho hp h9
    obtain ⟨n, rfl⟩ : ∃ m, n = m + 1 := ⟨n - 1, by omega⟩
    have e : i = c := by omega
    subst e
    rw [b_Press_payAll_12]
    simp only [hs.pr, hs.w20, ck_1, bo_s, hB.2.2.1, hc]
    rw [if_pos (nI_le (Nat.le_refl i) (by omega))]
    exact ⟨κ, rfl, hS, ho, hp, Chg.refl _ _ _, rfl⟩
  | succ d ih =>
    intro i n κ hi hn hs ht hB hS ho hp h9
    obtain ⟨n, rfl⟩ : ∃ m, n = m + 1 := ⟨n - 1, by omega⟩
    have hi10 : i < 10 := by omega
    have hm : (payF i (S, 0, 0)).1 (43 + i) = T (43 + i) := by
      rw [payF_o (by omega) (by omega) i _ (by omega)]
      exact hT _ (by omega)
    rw [b_Press_payAll_12]
    simp only [hs.pr, hs.w20, ht, ck_1, bo_s, hB.2.2.1, hc, inbT hi10 (by decide), clN (show i < 2147483648 by omega), hS.2.2.2.1 i hi10, hB.2.2.2.2.1 i hi10, lt_s9, nI_1]
    rw [if_neg (nI_ge (show i < c by omega) (by omega)), ← hm]
    by_cases hw : (payF i (S, 0, 0)).1 (13 + i) = (payF i (S, 0, 0)).1 (43 + i)
    · rw [if_pos hw]
      have e : payF (i + 1) (S, 0, 0) = payF i (S, 0, 0) := by
        rw [payF, payStep, if_pos hw]
      exact ih (i + 1) n κ (by omega) (by omega) hs ht hB (by rw [e]; exact hS) (by rw [e]; exact ho) (by rw [e]; exact hp) (by rw [e]; exact h9)
    · rw [if_neg hw]
      have hq : fi κ (A 21) 1 = (payF i (S, 0, 0)).1 1 := by
        rw [payF_o (by omega) (by omega) i _ (by omega)]
        exact hB.2.1.trans (hT _ (by omega)).symm
      obtain ⟨κ1, e1, hS1, ho1, hp1, g1, l1⟩ := c_payOne N hs ht (by unfold Hb at hb; omega) hq hS ho hp hi10 h9 hw
      rw [e1, bo_s]
      obtain ⟨κ2, e2, hS2, ho2, hp2, g2, l2⟩ := ih (i + 1) n κ1 (by omega) (by omega) (hs.chg g1) (ht.chg g1) (hB.chg g1 hb.n21) hS1 ho1 hp1 (R9_pay h9)
      exact ⟨κ2, e2, hS2, ho2, hp2, g1.trans g2, l2.trans l1⟩
theorem c_payAll (N : Nat) (hN : 11 ≤ N) {κ : Cz} {A : Nat → Nat} {b c : Nat} {S T : Nat → Int32} (hb : Hb b) (hs : Sh κ A) (ht : sSt κ A b) (hB : Bk κ A 21 T) (hS : St κ A b S) (hc : T 3 = nI c) (hc10 : c ≤ 10) (hT : ∀ j, j < 10 ∨ 43 ≤ j → S j = T j) (h9 : R9 S) : ∃ κ1, p_Press_payAll N (A 40) (A b) κ = some κ1 ∧ St κ1 A b (payF c (S, 0, 0)).1 ∧ fi κ1 (A 40) 5 = (payF c (S, 0, 0)).2.1 ∧ fi κ1 (A 40) 4 = (payF c (S, 0, 0)).2.2 ∧ Chg A (Lp b) κ κ1 ∧ fi κ1 (A 40) 3 = fi κ (A 40) 3 := by
  unfold p_Press_payAll
  have hA := hs.inj
  have g1 : Chg A (fun r => r = 40) κ (sfi (A 40) 4 0 κ) := Chg.sfi (L := fun r => r = 40) hA κ (r := 40) rfl _ _
  have g2 : Chg A (fun r => r = 40) κ (sfi (A 40) 5 0 (sfi (A 40) 4 0 κ)) := g1.trans (Chg.sfi (L := fun r => r = 40) hA _ (r := 40) rfl _ _)
  simp only [hs.pr, ck_1, lt_s9]
  have hn : ∀ r, 21 ≤ r → r < 21 + 4 → ¬ r = 40 := by intro r h1 h2; omega
  obtain ⟨κ1, e1, h1, h2, h3, g3, l3⟩ := c_payLoop N hb hc hc10 hT c 0 N (sfi (A 40) 5 0 (sfi (A 40) 4 0 κ)) (by omega) (by omega) (hs.chg g2) (ht.chg g2) (hB.chg g2 hn) (hS.chg g2 (by intro r h1 h2; unfold Hb at hb; omega)) (by simp [fi_fi, payF]) (by simp [fi_fi, payF]) h9
  exact ⟨κ1, e1, h1, h2, h3, (g2.mono (fun r z => Or.inl z)).trans g3, l3.trans (by rw [fi_fi, if_neg (by simp), fi_fi, if_neg (by simp)])⟩
theorem c_slipLoop (N : Nat) {A : Nat → Nat} {κ : Cz} {b c j : Nat} {S : Nat → Int32} (hs : Sh κ A) (ht : sSt κ A b) (hB : Bk κ A 21 S) (hS : St κ A b S) (hc : S 3 = nI c) (hc10 : c ≤ 10) (hj : j < 12) (m : Int32) : ∀ (d i n : Nat), i + d = c → d < n → ∃ κ1, b_Press_putByHabit_18 N n (A 40) (A b) m (nI j) (nI i) κ = some κ1 ∧ St κ1 A b (slipG S m (S (73 + 2 * j)) (S (73 + 2 * j + 1)) d i) ∧ fi κ1 = fi κ ∧ Chg A (Lp b) κ κ1 := by
  intro d
  induction d with
  | zero =>
    intro i n hi hn
    obtain ⟨n, rfl⟩ : ∃ m, n = m + 1 := ⟨n - 1, by omega⟩
    have e : i = c := by omega
    subst e
    rw [b_Press_putByHabit_18]
    simp only [hs.pr, hs.w20, ck_1, bo_s, hB.2.2.1, hc]
    rw [if_pos (nI_le (Nat.le_refl i) (by omega))]
    exact ⟨κ, rfl, hS, rfl, Chg.refl _ _ _⟩
  | succ d ih =>
    intro i n hi hn
    obtain ⟨n, rfl⟩ : ∃ m, n = m + 1 := ⟨n - 1, by omega⟩
    have hi10 : i < 10 := by omega
    have h1 := ih (i + 1) n (by omega) (by omega)
    rw [b_Press_putByHabit_18, slipG]
    simp only [hs.pr, hs.w20, ht, ck_1, bo_s, hB.2.2.1, hc, inbT hi10 (by decide), inbT hj (by decide), clN (show i < 2147483648 by omega), clN (show j < 2147483648 by omega), hS.2.2.2.1 i hi10, hB.2.2.2.2.2.1 j hj, hB.2.2.2.2.2.2 j hj, lt_s9, nI_1]
    rw [if_neg (nI_ge (show i < c by omega) (by omega))]
    by_cases hm : nI i = m
    · rw [if_pos hm, if_pos hm]
      exact h1
    · rw [if_neg hm, if_neg hm]
      by_cases hf : S (13 + i) = S (73 + 2 * j)
      · rw [if_pos hf, if_pos hf]
        have hA := hs.inj
        refine ⟨_, rfl, ⟨?_, ?_, ?_, ?_, ?_, ?_⟩, rfl, Chg.sai hA κ (r := b + 1) (Or.inr (Or.inr (Or.inl ⟨by omega, by omega⟩))) _⟩
        · rw [fi_ai, hS.1]; simp [upd]; intro z; omega
        · rw [fi_ai, hS.2.1]; simp [upd]; intro z; omega
        · rw [fi_ai, hS.2.2.1]; simp [upd]; intro z; omega
        · intro q hq
          rw [ai_ai, if_pos rfl, upd_at, upd_at]
          by_cases e : q = i
          · rw [if_pos e, if_pos (by omega)]
          · rw [if_neg e, if_neg (by omega)]
            exact hS.2.2.2.1 q hq
        · intro q hq
          rw [ai_ai, if_neg (hA.ne (by omega)), upd_at, if_neg (by omega)]
          exact hS.2.2.2.2.1 q hq
        · intro q hq
          rw [ai_ai, if_neg (hA.ne (by omega)), upd_at, if_neg (by omega)]
          exact hS.2.2.2.2.2 q hq
      · rw [if_neg hf, if_neg hf]
        exact h1
theorem c_putByHabit (N : Nat) (hN : 11 ≤ N) {A : Nat → Nat} {κ : Cz} {b c h e : Nat} {S : Nat → Int32} {lf : Int32} (hs : Sh κ A) (ht : sSt κ A b) (hB : Bk κ A 21 S) (hS : St κ A b S) (hc : S 3 = nI c) (hc10 : c ≤ 10) (hh : S 2 = nI h) (h12 : h ≤ 12) (he : S 10 = nI e) (he2 : e < 2 ^ 31) (hlf : fi κ (A 40) 3 = lf) (hl0 : h = 0 → lf = -1) (m : Int32) : ∃ κ1, p_Press_putByHabit N (A 40) (A b) m κ = some κ1 ∧ St κ1 A b (sSlip S c h e lf m) ∧ fi κ1 = fi κ ∧ Chg A (Lp b) κ κ1 := by
  have hr : 0 < sRd h ∧ sRd h ≤ 12 := by unfold sRd; split <;> omega
  have hm : e % sRd h < sRd h := Nat.mod_lt _ hr.1
  unfold p_Press_putByHabit
  simp only [hs.pr, ck_1, c_habitOf N hs ht hB hS hh h12 he he2, bd_s, hlf]
  have hL := c_slipLoop N hs ht hB hS hc hc10 (show e % sRd h < 12 by omega) m c 0 N (by omega) (by omega)
  rw [nI_0] at hL
  unfold sSlip
  by_cases h0 : h = 0
  · rw [if_neg (by rw [hl0 h0, h0]; simp [sRd, Nat.mod_one]; decide), if_neg (by omega)]
    exact hL
  · have e1 : sRd h = h := by simp [sRd, h0]
    rw [e1] at hL ⊢
    by_cases hf : nI (e % h) = lf
    · rw [if_pos hf, if_pos ⟨by omega, hf⟩]
      exact ⟨κ, rfl, hS, rfl, Chg.refl _ _ _⟩
    · rw [if_neg hf, if_neg (fun z => hf z.2)]
      exact hL
theorem R9_slip {S : Nat → Int32} {c h e : Nat} {lf m : Int32} (hc : c ≤ 10) (h9 : R9 S) : R9 (sSlip S c h e lf m) := by
  refine ⟨?_, fun k hk => ?_⟩
  · rw [sSlip_o _ _ _ _ _ _ (by omega)]; exact h9.1
  · rw [sSlip_o _ _ _ _ _ _ (by omega)]; exact h9.2 k hk
theorem c_print30 (N : Nat) (hN : 11 ≤ N) {A : Nat → Nat} {κ : Cz} {b c h e : Nat} {S : Nat → Int32} {lf : Int32} (hb : Hb b) (hs : Sh κ A) (ht : sSt κ A b) (hB : Bk κ A 21 S) (hS : St κ A b S) (hc : S 3 = nI c) (hc10 : c ≤ 10) (hh : S 2 = nI h) (h12 : h ≤ 12) (he : S 10 = nI e) (he2 : e < 2 ^ 31) (hlf : fi κ (A 40) 3 = lf) (hl0 : h = 0 → lf = -1) (h9 : R9 S) (m : Int32) : ∃ κ1, b_Press_printWith_30 N (A 40) (A b) m κ = some κ1 ∧ St κ1 A b (sPrS S c h e lf m) ∧ fi κ1 (A 40) 5 = (sPr2 S c h e lf m).2.1 ∧ fi κ1 (A 40) 4 = (sPr2 S c h e lf m).2.2 ∧ Chg A (Lp b) κ κ1 ∧ fi κ1 (A 40) 3 = fi κ (A 40) 3 := by
  obtain ⟨κ1, e1, hS1, hf1, g1⟩ := c_putByHabit N hN hs ht hB hS hc hc10 hh h12 he he2 hlf hl0 m
  have hs1 := hs.chg g1
  have ht1 := ht.chg g1
  obtain ⟨κ2, e2, hS2, ho2, hp2, g2, l2⟩ := c_payAll N hN hb hs1 ht1 (hB.chg g1 hb.n21) hS1 hc hc10 (fun j hj => sSlip_o _ _ _ _ _ _ (by omega)) (R9_slip hc10 h9)
  have hs2 := hs1.chg g2
  have ht2 := ht1.chg g2
  have h10 : fi κ2 (A b) 5 = nI e := by
    rw [hS2.1, payF_o (by decide) (by decide) c _ (by omega)]
    show sSlip S c h e lf m 10 = nI e
    rw [sSlip_o _ _ _ _ _ _ (by omega)]
    exact he
  have hA := hs.inj
  have nb : ¬ A 40 = A b := hA.ne (by unfold Hb at hb; omega)
  unfold b_Press_printWith_30
  simp only [hs.pr, ck_1, e1, bo_s, hs1.pr, e2, ht2, lt_s9, h10, nI_1]
  refine ⟨_, rfl, ⟨?_, ?_, ?_, ?_, ?_, ?_⟩, ?_, ?_, (g1.trans g2).trans (Chg.sfi hA _ (Or.inr (Or.inr (Or.inl ⟨Nat.le_refl b, by omega⟩))) _ _), ?_⟩
  · rw [fi_fi, if_pos ⟨rfl, rfl⟩]; simp [sPrS, upd]
  · rw [fi_fi, if_neg (by simp), hS2.2.1]; simp [sPrS, sPr2, upd]
  · rw [fi_fi, if_neg (by simp), hS2.2.2.1]; simp [sPrS, sPr2, upd]
  · intro i hi
    rw [ai_fi, hS2.2.2.2.1 i hi, sPrS, upd_at, if_neg (by omega)]; rfl
  · intro i hi
    rw [ai_fi, hS2.2.2.2.2.1 i hi, sPrS, upd_at, if_neg (by omega)]; rfl
  · intro i hi
    rw [ai_fi, hS2.2.2.2.2.2 i hi, sPrS, upd_at, if_neg (by omega)]; rfl
  · rw [fi_fi, if_neg (fun z => nb z.1)]; exact ho2
  · rw [fi_fi, if_neg (fun z => nb z.1)]; exact hp2
  · rw [fi_fi, if_neg (fun z => nb z.1), l2, hf1]
/-- m is mended: a letter, or none -/
def sMd (S : Nat → Int32) (c : Nat) (m : Int32) : Nat → Int32 := if 0 ≤ m ∧ m < nI c then upd S (13 + m.toNatClampNeg) (S (43 + m.toNatClampNeg)) else S
/-- an edition in which m is mended: said, owed for, paid to -/
def sEd (S : Nat → Int32) (c h e : Nat) (lf m : Int32) : (Nat → Int32) × Int32 × Int32 := (sPrS (sMd S c m) c h e lf m, (sPr2 (sMd S c m) c h e lf m).2)
theorem sMd_o (S : Nat → Int32) {c : Nat} (hc : c ≤ 10) (m : Int32) {j : Nat} (hj : j < 13 ∨ 23 ≤ j) : sMd S c m j = S j := by
  unfold sMd
  split
  · rename_i z
    have : m.toNatClampNeg < c := by
      obtain ⟨k, hk, rfl⟩ := nI_of (x := m) (Int32.not_lt.mpr z.1)
      rw [nI_clamp hk]
      exact (nI_ltI hk (by omega)).mp z.2
    rw [upd_at, if_neg (by omega)]
  · rfl
theorem sMd_k (S : Nat → Int32) {c k : Nat} (hk : k < c) (hc : c ≤ 10) : sMd S c (nI k) = upd S (13 + k) (S (43 + k)) := by
  unfold sMd
  rw [if_pos ⟨nI_pos' (by omega), nI_lt hk (by omega)⟩, nI_clamp (by omega)]
theorem sMd_N (S : Nat → Int32) (c : Nat) : sMd S c (-1) = S := by
  unfold sMd
  rw [if_neg (fun z => absurd z.1 (by decide))]
theorem c_printWith (N : Nat) (hN : 11 ≤ N) {A : Nat → Nat} {κ : Cz} {b c h e : Nat} {S : Nat → Int32} {lf : Int32} (hb : Hb b) (hs : Sh κ A) (ht : sSt κ A b) (hB : Bk κ A 21 S) (hS : St κ A b S) (hc : S 3 = nI c) (hc10 : c ≤ 10) (hh : S 2 = nI h) (h12 : h ≤ 12) (he : S 10 = nI e) (he2 : e < 2 ^ 31) (hlf : fi κ (A 40) 3 = lf) (hl0 : h = 0 → lf = -1) (h9 : R9 S) (m : Int32) : ∃ κ1, p_Press_printWith N (A 40) (A b) m κ = some κ1 ∧ St κ1 A b (sEd S c h e lf m).1 ∧ fi κ1 (A 40) 5 = (sEd S c h e lf m).2.1 ∧ fi κ1 (A 40) 4 = (sEd S c h e lf m).2.2 ∧ Chg A (Lp b) κ κ1 ∧ fi κ1 (A 40) 3 = fi κ (A 40) 3 := by
  have hA := hs.inj
  unfold p_Press_printWith sEd
  by_cases h0 : m < 0
  · have e1 : sMd S c m = S := by
      unfold sMd
      rw [if_neg (fun z => Int32.not_lt.mpr z.1 h0)]
    rw [if_pos h0, e1]
    exact c_print30 N hN hb hs ht hB hS hc hc10 hh h12 he he2 hlf hl0 h9 m
  · rw [if_neg h0]
    simp only [hs.pr, hs.w20, ht, ck_1, bo_s, hB.2.2.1, hc]
    by_cases h1 : nI c ≤ m
    · have e1 : sMd S c m = S := by
        unfold sMd
        rw [if_neg (fun z => Int32.not_lt.mpr h1 z.2)]
      rw [if_pos h1, e1]
      exact c_print30 N hN hb hs ht hB hS hc hc10 hh h12 he he2 hlf hl0 h9 m
    · rw [if_neg h1]
      obtain ⟨k, hk, rfl⟩ := nI_of h0
      have hkc : k < c := by
        rcases Nat.lt_or_ge k c with z | z
        · exact z
        · exact absurd (nI_le z hk) h1
      have hk10 : k < 10 := by omega
      rw [sMd_k S hkc hc10]
      simp only [inbT hk10 (by decide), clN (show k < 2147483648 by omega), hB.2.2.2.2.1 k hk10, lt_s9, ck_1]
      have g1 : Chg A (Lp b) κ (sai (A (b + 1)) (upd (ai κ (A (b + 1))) k (S (43 + k))) κ) := Chg.sai hA κ (r := b + 1) (Or.inr (Or.inr (Or.inl ⟨by omega, by omega⟩))) _
      have u : ∀ j, j ≠ 13 + k → upd S (13 + k) (S (43 + k)) j = S j := fun j hj => by rw [upd_at, if_neg hj]
      obtain ⟨κ1, e1, a1, a2, a3, g2, l2⟩ := c_print30 N hN (lf := lf) hb (hs.chg g1) (ht.chg g1) ((hB.chg g1 hb.n21).congr (fun j hj => (u j (by omega)).symm)) (S := upd S (13 + k) (S (43 + k))) (by
        refine ⟨?_, ?_, ?_, ?_, ?_, ?_⟩
        · rw [fi_ai, u _ (by omega)]; exact hS.1
        · rw [fi_ai, u _ (by omega)]; exact hS.2.1
        · rw [fi_ai, u _ (by omega)]; exact hS.2.2.1
        · intro i hi
          rw [ai_ai, if_pos rfl, upd_at, upd_at]
          by_cases q : i = k
          · rw [if_pos q, if_pos (by omega)]
          · rw [if_neg q, if_neg (by omega)]
            exact hS.2.2.2.1 i hi
        · intro i hi
          rw [ai_ai, if_neg (hA.ne (by omega)), u _ (by omega)]
          exact hS.2.2.2.2.1 i hi
        · intro i hi
          rw [ai_ai, if_neg (hA.ne (by omega)), u _ (by omega)]
          exact hS.2.2.2.2.2 i hi) ((u _ (by omega)).trans hc) hc10 ((u _ (by omega)).trans hh) h12 ((u _ (by omega)).trans he) he2 hlf hl0 ⟨by rw [u _ (by omega)]; exact h9.1, fun j hj => by rw [u _ (by omega)]; exact h9.2 j hj⟩ (nI k)
      exact ⟨κ1, e1, a1, a2, a3, g1.trans g2, l2⟩
