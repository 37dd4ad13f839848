/-! which letter an edition mends: both choose alike -/
/-- what changes in the reference: ints in I, rows in R -/
def MCh (I R : Nat → Prop) (μ μ1 : Mz) : Prop := (∀ k, ¬ I k → gi k μ1 = gi k μ) ∧ (∀ k, ¬ R k → ga k μ1 = ga k μ) ∧ ∀ k, gj k μ1 = gj k μ
theorem MCh.refl (I R : Nat → Prop) (μ : Mz) : MCh I R μ μ := ⟨fun _ _ => rfl, fun _ _ => rfl, fun _ => rfl⟩
theorem MCh.trans {I R : Nat → Prop} {μ μ1 μ2 : Mz} (h : MCh I R μ μ1) (g : MCh I R μ1 μ2) : MCh I R μ μ2 := ⟨fun k hk => (g.1 k hk).trans (h.1 k hk), fun k hk => (g.2.1 k hk).trans (h.2.1 k hk), fun k => (g.2.2 k).trans (h.2.2 k)⟩
theorem MCh.mono {I R I1 R1 : Nat → Prop} {μ μ1 : Mz} (h : MCh I R μ μ1) (g : ∀ k, I k → I1 k) (g2 : ∀ k, R k → R1 k) : MCh I1 R1 μ μ1 := ⟨fun k hk => h.1 k (fun z => hk (g k z)), fun k hk => h.2.1 k (fun z => hk (g2 k z)), h.2.2⟩
theorem RuC.chg {κ κ1 : Cz} {A : Nat → Nat} {μ μ1 : Mz} {r : Nat} {L : Nat → Prop} (h : RuC κ A μ r) (g : Chg A L κ κ1) (hL : ∀ q, 300 ≤ q → q % 5 ≠ 4 → ¬ L q) (m1 : ga 1 μ1 = ga 1 μ) (m3 : ga 3 μ1 = ga 3 μ) (m4 : ga 4 μ1 = ga 4 μ) : RuC κ1 A μ1 r := by
  obtain ⟨nc, k, g', s, en, h1, h2, h3, h4, h5, h6, h7, h8⟩ := h
  refine ⟨nc, k, g', s, en, ?_, h2, h3, ?_, ?_, h6, h7, ?_⟩
  · simp only [sRu, g.isK, g.fr, g.ln]; exact h1
  · rw [m4]; exact h4
  · rw [m1, g.ai (hL _ (by omega) (by omega))]; exact h5
  · rw [m3, g.ai (hL _ (by omega) (by omega)), g.ai (hL _ (by omega) (by omega))]; exact h8
/-- what the choice changes in the class: words, the rules' stacks -/
def Lc (r : Nat) : Prop := r = 41 ∨ (300 ≤ r ∧ r % 5 = 4)
theorem Lc.n21 : ∀ r, 21 ≤ r → r < 21 + 4 → ¬ Lc r := by
  intro r h1 h2 z
  unfold Lc at z
  omega
theorem Lc.nb {b : Nat} (hb : Hb b) : ∀ r, b ≤ r → r < b + 4 → ¬ Lc r := by
  intro r h1 h2 z
  unfold Hb at hb
  unfold Lc at z
  omega
theorem Lc.n300 : ∀ q, 300 ≤ q → q % 5 ≠ 4 → ¬ Lc q := by
  intro q h1 h2 z
  unfold Lc at z
  omega
/-- with a rule -/
theorem ch_loop (N : Nat) (hN : 401 ≤ N) {A : Nat → Nat} {b c h e r : Nat} {S : Nat → Int32} (hb : Hb b) (hb0 : S 0 = 1) (hc : S 3 = nI c) (hc10 : c ≤ 10) (hh : S 2 = nI h) (h12 : h ≤ 12) (he : S 10 = nI e) (he2 : e < 2 ^ 31) (hr6 : r < 6) : ∀ (d i n m : Nat) (κ : Cz) (μ : Mz) (best : Int32) (most : Int64), i + d = c → d < n → d < m → Sh κ A → sSt κ A b → Bk κ A 21 S → St κ A b S → fr κ (A 40) 2 = some (A (300 + 5 * r)) → RuC κ A μ r → ga 7 μ = S → gi 11 μ = nI r → (∀ k w, w < 12 → w = 4 ∨ w = 5 ∨ 7 ≤ w → al κ (A 41) w = wS S c h e k w) → ∃ (res : Int32) (κ1 : Cz) (μ1 : Mz), b_Press_chosen_47 N n (A 40) (A b) (sWrong S c) (sLoose S c) best most (nI i) κ = some (res, κ1) ∧ b12_choice_7 N m best most (nI i) μ = some (res, μ1) ∧ Chg A Lc κ κ1 ∧ MCh (fun k => k = 10) (fun _ => False) μ μ1 ∧ (res = best ∨ ∃ k, k < c ∧ res = nI k) := by
  intro d
  induction d with
  | zero =>
    intro i n m κ μ best most hi hn hm hs ht hB hS hf hR h7 h11 hw
    obtain ⟨n, rfl⟩ : ∃ q, n = q + 1 := ⟨n - 1, by omega⟩
    obtain ⟨m, rfl⟩ : ∃ q, m = q + 1 := ⟨m - 1, by omega⟩
    have e1 : i = c := by omega
    subst e1
    refine ⟨best, κ, μ, ?_, ?_, Chg.refl _ _ _, MCh.refl _ _ _, Or.inl rfl⟩
    · rw [b_Press_chosen_47]
      simp -implicitDefEqProofs only [hs.pr, hs.w20, ck_1, bo_s, hB.2.2.1, hc]
      rw [if_pos (nI_le (Nat.le_refl i) (by omega))]
    · rw [b12_choice_7, show ga 7 μ (3 : Int32).toNatClampNeg = nI i from by rw [h7]; exact hc, if_pos (nI_le (Nat.le_refl i) (by omega))]
  | succ d ih =>
    intro i n m κ μ best most hi hn hm hs ht hB hS hf hR h7 h11 hw
    obtain ⟨n, rfl⟩ : ∃ q, n = q + 1 := ⟨n - 1, by omega⟩
    obtain ⟨m, rfl⟩ : ∃ q, m = q + 1 := ⟨m - 1, by omega⟩
    have hic : i < c := by omega
    have hi10 : i < 10 := by omega
    have hbt : bt (sLoose S c) i = sLs S c i := by
      rw [sLoose, bt_bitsF _ _ hc10]
      simp [hic]
    have h7c : ga 7 μ 3 = nI c := by rw [h7]; exact hc
    rw [b_Press_chosen_47, b12_choice_7, show ga 7 μ (3 : Int32).toNatClampNeg = nI c from h7c, if_neg (nI_ge hic (by omega)), m_isLoose N (by omega) μ h7c hc10 hic, bd_s, h7]
    simp -implicitDefEqProofs only [hs.pr, hs.w20, ck_1, bo_s, bd_s, hB.2.2.1, hc, c_hasBit N _ (show i < 32 by omega), hbt]
    rw [if_neg (nI_ge hic (by omega))]
    by_cases hl : sLs S c i = true
    · rw [if_pos hl, if_neg (by decide), if_neg (by decide), h11, if_pos (nI_pos' (by omega))]
      obtain ⟨f, ef, hfw⟩ := c_tellWordsOf N (by omega) hs ht hB hS hc hc10 hi10 (h := h) (e := e) (hw i)
      have h7' := h7
      obtain ⟨f2, ef2, hfw2⟩ := m_sumOf N (by omega) (μ := μ) (c := c) (h := h) (e := e) (k := i) h7c hc10 (by rw [h7]; exact hb0) (by rw [h7]; exact hh) h12 (by rw [h7]; exact he) he2 hi10
      rw [ef, bo_s]
      have hA := hs.inj
      have g1 : Chg A Lc κ (sal (A 41) f κ) := Chg.sal hA κ (Or.inl rfl) f
      have hs1 := hs.chg g1
      have hR1 : RuC (sal (A 41) f κ) A (sl 1 f2 μ) r := hR.chg g1 Lc.n300 rfl rfl rfl
      obtain ⟨v, f3, t3, h3, e3, e4⟩ := rule_sum hN hA hs1.pr hr6 hR1 (fun w hw => by rw [al_al, if_pos rfl, gl_sl, hfw w hw, hfw2 w hw, h7])
      rw [ef2, h11, e4, bd_s]
      have hf1 : fr (sal (A 41) f κ) (A 40) 2 = some (A (300 + 5 * r)) := by rw [fr_al]; exact hf
      have hru : isK (sal (A 41) f κ) (A (300 + 5 * r)) 6 = true := by
        obtain ⟨_, _, _, _, _, z, _⟩ := hR1
        exact z.1
      simp -implicitDefEqProofs only [hs1.pr, ck_1, hf1, oc_s, bo_s, hru, e3, bd_s, lt_s9, nI_1]
      have g2 : Chg A Lc (sal (A 41) f κ) (sal (A (300 + 5 * r + 4)) f3 (sal (A 41) f κ)) := Chg.sal hA _ (Or.inr ⟨by omega, by omega⟩) f3
      have g3 := g1.trans g2
      have mc : MCh (fun k => k = 10) (fun _ => False) μ (si 10 (nI t3) (sl 0 h3 (sl 1 f2 μ))) := ⟨fun k hk => by rw [gi_si_ne hk]; rfl, fun _ _ => rfl, fun _ => rfl⟩
      have hwn : ∀ k w, w < 12 → w = 4 ∨ w = 5 ∨ 7 ≤ w → al (sal (A (300 + 5 * r + 4)) f3 (sal (A 41) f κ)) (A 41) w = wS S c h e k w := by
        intro k w hw1 hw2
        rw [al_al, if_neg (hA.ne (by omega)), al_al, if_pos rfl, hfw w hw1, ← hw i w hw1 hw2, hw k w hw1 hw2]
      have hR2 := hR.chg (μ1 := si 10 (nI t3) (sl 0 h3 (sl 1 f2 μ))) g3 Lc.n300 rfl rfl rfl
      have step : ∀ (best : Int32) (most : Int64), ∃ (res : Int32) (κ1 : Cz) (μ1 : Mz), b_Press_chosen_47 N n (A 40) (A b) (sWrong S c) (sLoose S c) best most (nI (i + 1)) (sal (A (300 + 5 * r + 4)) f3 (sal (A 41) f κ)) = some (res, κ1) ∧ b12_choice_7 N m best most (nI (i + 1)) (si 10 (nI t3) (sl 0 h3 (sl 1 f2 μ))) = some (res, μ1) ∧ Chg A Lc κ κ1 ∧ MCh (fun k => k = 10) (fun _ => False) μ μ1 ∧ (res = best ∨ ∃ k, k < c ∧ res = nI k) := by
        intro best most
        obtain ⟨res, κ1, μ1, q1, q2, q3, q4, q5⟩ := ih (i + 1) n m _ (si 10 (nI t3) (sl 0 h3 (sl 1 f2 μ))) best most (by omega) (by omega) (by omega) (hs.chg g3) (ht.chg g3) (hB.chg g3 Lc.n21) (hS.chg g3 (Lc.nb hb)) hf1 hR2 h7 (by rw [gi_si_ne (by decide)]; exact h11) hwn
        exact ⟨res, κ1, μ1, q1, q2, g3.trans q3, mc.trans q4, q5⟩
      unfold b12_choice_47
      simp only [lt_s9, nI_1]
      by_cases hcmp : lg_cmp v most ≤ 0
      · rw [if_pos hcmp, if_neg (Int32.not_lt.mpr hcmp)]
        exact step best most
      · rw [if_neg hcmp, if_pos (Int32.not_le.mp hcmp)]
        obtain ⟨res, κ1, μ1, q1, q2, q3, q4, q5⟩ := step (nI i) v
        refine ⟨res, κ1, μ1, q1, q2, q3, q4, ?_⟩
        rcases q5 with q | q
        · exact Or.inr ⟨i, hic, q⟩
        · exact Or.inr q
    · rw [if_neg hl, if_pos rfl, if_pos rfl]
      simp only [lt_s9, nI_1]
      exact ih (i + 1) n m κ μ best most (by omega) (by omega) (by omega) hs ht hB hS hf hR h7 h11 hw
/-- without a rule: the least -/
theorem m_choice1 (N : Nat) (hN : 11 ≤ N) (μ : Mz) {c : Nat} (hc : ga 7 μ 3 = nI c) (hc10 : c ≤ 10) (h11 : gi 11 μ = -1) (best : Int32) : ∀ (d i n : Nat), i + d = c → d < n → b12_choice_7 N n best 1 (nI i) μ = some (best, μ) := by
  intro d
  induction d with
  | zero =>
    intro i n hi hn
    obtain ⟨n, rfl⟩ : ∃ m, n = m + 1 := ⟨n - 1, by omega⟩
    have e : i = c := by omega
    subst e
    rw [b12_choice_7, show ga 7 μ (3 : Int32).toNatClampNeg = nI i from hc, if_pos (nI_le (Nat.le_refl i) (by omega))]
  | succ d ih =>
    intro i n hi hn
    obtain ⟨n, rfl⟩ : ∃ m, n = m + 1 := ⟨n - 1, by omega⟩
    rw [b12_choice_7, show ga 7 μ (3 : Int32).toNatClampNeg = nI c from hc, if_neg (nI_ge (show i < c by omega) (by omega)), m_isLoose N hN μ hc hc10 (by omega), bd_s, h11, if_neg (show ¬ (0 : Int32) ≤ -1 by decide)]
    unfold b12_choice_47
    simp only [lt_s9, nI_1]
    have h1 := ih (i + 1) n (by omega) (by omega)
    by_cases hl : sLs (ga 7 μ) c i = true
    · rw [if_pos hl, if_neg (by decide), if_neg (by decide)]; exact h1
    · rw [if_neg hl, if_pos rfl]; exact h1
theorem m_choice0 (N : Nat) (hN : 11 ≤ N) (μ : Mz) {c : Nat} (hc : ga 7 μ 3 = nI c) (hc10 : c ≤ 10) (h11 : gi 11 μ = -1) : ∀ (d i n : Nat), i + d = c → d < n → (∀ j, j < i → sLs (ga 7 μ) c j = false) → b12_choice_7 N n (-1) 0 (nI i) μ = some (if sLoose (ga 7 μ) c = 0 then -1 else tzI (sLoose (ga 7 μ) c), μ) := by
  intro d
  induction d with
  | zero =>
    intro i n hi hn hz
    obtain ⟨n, rfl⟩ : ∃ m, n = m + 1 := ⟨n - 1, by omega⟩
    have e : i = c := by omega
    subst e
    rw [b12_choice_7, show ga 7 μ (3 : Int32).toNatClampNeg = nI i from hc, if_pos (nI_le (Nat.le_refl i) (by omega)), if_pos (show sLoose (ga 7 μ) i = 0 from (bitsF_0 _ hc10).mpr hz)]
  | succ d ih =>
    intro i n hi hn hz
    obtain ⟨n, rfl⟩ : ∃ m, n = m + 1 := ⟨n - 1, by omega⟩
    have hic : i < c := by omega
    rw [b12_choice_7, show ga 7 μ (3 : Int32).toNatClampNeg = nI c from hc, if_neg (nI_ge hic (by omega)), m_isLoose N hN μ hc hc10 hic, bd_s, h11, if_neg (show ¬ (0 : Int32) ≤ -1 by decide)]
    unfold b12_choice_47
    simp only [lt_s9, nI_1]
    by_cases hl : sLs (ga 7 μ) c i = true
    · rw [if_pos hl, if_neg (by decide), if_pos (by decide), m_choice1 N hN μ hc hc10 h11 (nI i) d (i + 1) n (by omega) (by omega)]
      have hne : sLoose (ga 7 μ) c ≠ 0 := fun z => by
        rw [(bitsF_0 _ hc10).mp z i hic] at hl
        cases hl
      rw [if_neg hne]
      obtain ⟨k, h1, h2, h3, h4⟩ := tz_F _ hc10 hne
      have : k = i := by
        rcases Nat.lt_trichotomy k i with q | q | q
        · rw [hz k q] at h3; cases h3
        · exact q
        · rw [h4 i q] at hl; cases hl
      subst this
      rw [show tzI (sLoose (ga 7 μ) c) = nI k from h2]
    · rw [if_neg hl, if_pos rfl]
      refine ih (i + 1) n (by omega) (by omega) (fun j hj => ?_)
      by_cases q : j = i
      · subst q; simpa using hl
      · exact hz j (by omega)
/-- the rule by which the Press goes on, and the reference -/
def RF (κ : Cz) (A : Nat → Nat) (μ : Mz) : Prop := (gi 11 μ = -1 ∧ fr κ (A 40) 2 = none) ∨ ∃ r, r < 6 ∧ gi 11 μ = nI r ∧ fr κ (A 40) 2 = some (A (300 + 5 * r)) ∧ RuC κ A μ r
theorem RF.chg {κ κ1 : Cz} {A : Nat → Nat} {μ μ1 : Mz} {L : Nat → Prop} (h : RF κ A μ) (g : Chg A L κ κ1) (hL : ∀ q, 300 ≤ q → q % 5 ≠ 4 → ¬ L q) (m11 : gi 11 μ1 = gi 11 μ) (m1 : ga 1 μ1 = ga 1 μ) (m3 : ga 3 μ1 = ga 3 μ) (m4 : ga 4 μ1 = ga 4 μ) : RF κ1 A μ1 := by
  rcases h with ⟨h1, h2⟩ | ⟨r, h1, h2, h3, h4⟩
  · exact Or.inl ⟨m11.trans h1, by rw [g.fr]; exact h2⟩
  · exact Or.inr ⟨r, h1, m11.trans h2, by rw [g.fr]; exact h3, h4.chg g hL m1 m3 m4⟩
/-- both choose alike -/
theorem choice_both (N : Nat) (hN : 401 ≤ N) {A : Nat → Nat} {κ : Cz} {μ : Mz} {b c h e : Nat} {S : Nat → Int32} (hb : Hb b) (hs : Sh κ A) (ht : sSt κ A b) (hB : Bk κ A 21 S) (hS : St κ A b S) (hb0 : S 0 = 1) (hc : S 3 = nI c) (hc10 : c ≤ 10) (hh : S 2 = nI h) (h12 : h ≤ 12) (he : S 10 = nI e) (he2 : e < 2 ^ 31) (hF : RF κ A μ) (h7 : ga 7 μ = S) : ∃ (res : Int32) (κ1 : Cz) (μ1 : Mz), p_Press_chosen N (A 40) (A b) κ = some (res, κ1) ∧ p12_choice N μ = some (res, μ1) ∧ Chg A Lc κ κ1 ∧ MCh (fun k => k = 10) (fun _ => False) μ μ1 ∧ (res = -1 ∨ ∃ k, k < c ∧ res = nI k) := by
  unfold p_Press_chosen p12_choice
  simp -implicitDefEqProofs only [hs.pr, ck_1, c_wrongOf N (by omega) hs ht hB hS hc hc10, bd_s, c_looseOfWrong N (by omega) hs ht hB hS hc hc10]
  have h7c : ga 7 μ 3 = nI c := by rw [h7]; exact hc
  rcases hF with ⟨f1, f2⟩ | ⟨r, f1, f2, f3, f4⟩
  · have hm := m_choice0 N (by omega) μ h7c hc10 f1 c 0 N (by omega) (by omega) (fun j hj => absurd hj (by omega))
    rw [h7, nI_0] at hm
    rw [hm]
    by_cases z : sLoose S c = 0
    · rw [if_pos z, if_pos z]
      exact ⟨-1, κ, μ, rfl, rfl, Chg.refl _ _ _, MCh.refl _ _ _, Or.inl rfl⟩
    · rw [if_neg z, if_neg z, f2, oc_n, c_tz, bd_s]
      obtain ⟨k, k1, k2, -, -⟩ := tz_F _ hc10 z
      exact ⟨_, κ, μ, rfl, rfl, Chg.refl _ _ _, MCh.refl _ _ _, Or.inr ⟨k, k1, k2⟩⟩
  · by_cases z : sLoose S c = 0
    · -- none is loose: the reference goes through and finds none
      rw [if_pos z]
      have hz : ∀ k, k < c → sLs S c k = false := (bitsF_0 _ hc10).mp z
      have hm : ∀ (d i n : Nat), i + d = c → d < n → b12_choice_7 N n (-1) 0 (nI i) μ = some (-1, μ) := by
        intro d
        induction d with
        | zero =>
          intro i n hi hn
          obtain ⟨n, rfl⟩ : ∃ m, n = m + 1 := ⟨n - 1, by omega⟩
          have e : i = c := by omega
          subst e
          rw [b12_choice_7, show ga 7 μ (3 : Int32).toNatClampNeg = nI i from h7c, if_pos (nI_le (Nat.le_refl i) (by omega))]
        | succ d ih =>
          intro i n hi hn
          obtain ⟨n, rfl⟩ : ∃ m, n = m + 1 := ⟨n - 1, by omega⟩
          rw [b12_choice_7, show ga 7 μ (3 : Int32).toNatClampNeg = nI c from h7c, if_neg (nI_ge (show i < c by omega) (by omega)), m_isLoose N (by omega) μ h7c hc10 (by omega), bd_s, h7, hz i (by omega), if_neg (show ¬ false = true by decide), if_pos rfl, lt_s9, nI_1]
          exact ih (i + 1) n (by omega) (by omega)
      have hm0 := hm c 0 N (by omega) (by omega)
      rw [nI_0] at hm0
      exact ⟨-1, κ, μ, rfl, hm0, Chg.refl _ _ _, MCh.refl _ _ _, Or.inl rfl⟩
    · rw [if_neg z, f3, oc_s]
      obtain ⟨f, ef, hfw⟩ := c_tellWords N (c := c) hs ht hB hS hh h12 he he2 0
      have hind : ∀ k w, w < 12 → w = 4 ∨ w = 5 ∨ 7 ≤ w → f w = wS S c h e k w := by
        intro k w h1 h2
        rw [hfw w h1 h2]
        have hw : w = 4 ∨ w = 5 ∨ w = 7 ∨ w = 8 ∨ w = 9 ∨ w = 10 ∨ w = 11 := by omega
        rcases hw with rfl | rfl | rfl | rfl | rfl | rfl | rfl <;> simp [wS]
      have hA := hs.inj
      have g1 : Chg A Lc κ (sal (A 41) f κ) := Chg.sal hA κ (Or.inl rfl) f
      rw [ef, bo_s]
      obtain ⟨res, κ1, μ1, q1, q2, q3, q4, q5⟩ := ch_loop N hN hb hb0 hc hc10 hh h12 he he2 f1 c 0 N N _ μ (-1) 0 (by omega) (by omega) (by omega) (hs.chg g1) (ht.chg g1) (hB.chg g1 Lc.n21) (hS.chg g1 (Lc.nb hb)) (by rw [fr_al]; exact f3) (f4.chg (μ1 := μ) g1 Lc.n300 rfl rfl rfl) h7 f2 (fun k w h1 h2 => by rw [al_al, if_pos rfl]; exact hind k w h1 h2)
      exact ⟨res, κ1, μ1, q1, q2, g1.trans q3, q4, q5⟩
