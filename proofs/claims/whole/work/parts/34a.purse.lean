/-! a rule that does not ask for PURSE: the sum, whatever the purse -/
section RuleRun7
variable {N : Nat} {A : Nat → Nat} {κ : Cz} {μ : Mz} {B r nc k : Nat} {g : Nat → Nat}
theorem rr_run7 (hA : Inj A) (hB : 300 ≤ B) (hw : isK κ (A 41) 21 = true) (hw2 : ln κ (A 41) = 12) (hr : sRu κ A B nc k) (hnc : nc ≤ 400) (hr6 : r < 6) (hg : ∀ i, i < nc → ai κ (A (B + 1)) i = cOf (g i) ∧ ga 1 μ (400 * r + i) = nI (g i)) (hwd : ∀ w, w < 12 → w ≠ 7 → al κ (A 41) w = gl 1 μ w) (h7n : ∀ i, i < nc → g i ≠ 113) {j : Nat} (hj : j ≤ nc) {tt : Bool} : ∀ (d i n m : Nat) (st : List Bool) (f h : Nat → Int64), i + d = j → d < n → d < m → tyRun g d i st = some [tt] → Sk st f h → st.length + nV g d i ≤ 60 → st.length ≤ i → ∃ (v : Int64) (f1 h1 : Nat → Int64), b_Rule_valueOf_6 N n (A B) (nI j) (A 41) (nI st.length) (nI i) (sal (A (B + 4)) f κ) = some (v, sal (A (B + 4)) f1 κ) ∧ b12_reckons_8 N m (nI r) (nI j) (nI i) (mR μ st.length h) = some (v, mR μ 0 h1) ∧ (tt = true → v = 0 ∨ v = 1) := by
  intro d
  induction d with
  | zero =>
    intro i n m st f h hi hn hm ht hk hl hli
    obtain ⟨n, rfl⟩ : ∃ q, n = q + 1 := ⟨n - 1, by omega⟩
    obtain ⟨m, rfl⟩ : ∃ q, m = q + 1 := ⟨m - 1, by omega⟩
    have e : i = j := by omega
    subst e
    have e2 : st = [tt] := by
      rw [tyRun] at ht
      exact Option.some.inj ht
    subst e2
    refine ⟨f 0, f, h, ?_, ?_, hk.2.1⟩
    · rw [b_Rule_valueOf_6, if_pos (nI_le (Nat.le_refl i) (by omega)), if_neg (show ¬ nI [tt].length < 1 from (by decide : ¬ nI 1 < 1))]
      simp only [isK_al, fr_al, ln_al, al_al, hr, ck_1, bo_s, lt_s9, List.length_cons, List.length_nil, sub1, inbT (show 0 < nc + 1 by omega) (show nc + 1 < 2147483648 by omega), clN (show 0 < 2147483648 by omega), if_true]
    · rw [b12_reckons_8, if_pos (nI_le (Nat.le_refl i) (by omega))]
      show bd (p12_pop N (mR μ (0 + 1) h)) _ = _
      rw [m_pop N μ h (by decide), bd_s]
      rw [show f 0 = h 0 from hk.1]
  | succ d ih =>
    intro i n m st f h hi hn hm ht hk hl hli
    obtain ⟨n, rfl⟩ : ∃ q, n = q + 1 := ⟨n - 1, by omega⟩
    obtain ⟨m, rfl⟩ : ∃ q, m = q + 1 := ⟨m - 1, by omega⟩
    have hin : i < nc := by omega
    obtain ⟨hc, hm1⟩ := hg i hin
    rw [tyRun] at ht
    rw [nV] at hl
    cases hts : tyStep (g i) st with
    | none => rw [hts] at ht; cases ht
    | some st1 =>
      rw [hts] at ht
      have ht1 : tyRun g d (i + 1) st1 = some [tt] := ht
      generalize hsg : g i = s at *
      unfold tyStep at hts
      by_cases h0 : s % 16 = 0
      · rw [if_pos h0] at hts
        by_cases h1 : s / 16 < 100000
        · rw [if_pos h1] at hts
          have e1 := Option.some.inj hts
          subst e1
          rw [if_pos (show s % 16 < 2 by omega)] at hl
          rw [cs_num hr (by omega) hj hnc hli hc h0 h1, ms_pre (by omega) (by omega) hr6 (by omega) hm1, if_pos (by rw [h0]; rfl), m_push N _ μ h (by omega), bo_s]
          exact ih (i + 1) n m (false :: st) _ _ (by omega) (by omega) (by omega) ht1 (Sk_push hk (fun z => by cases z)) (by simp only [List.length_cons]; omega) (by simp only [List.length_cons]; omega)
        · rw [if_neg h1] at hts; cases hts
      · rw [if_neg h0] at hts
        by_cases h1 : s % 16 = 1
        · rw [if_pos h1] at hts
          by_cases h2 : s / 16 < 12
          · rw [if_pos h2] at hts
            have e1 := Option.some.inj hts
            subst e1
            rw [if_pos (show s % 16 < 2 by omega)] at hl
            rw [cs_word hA hB hw hw2 hr (by omega) hj hnc hli hc h1 h2, ms_pre (by omega) (by omega) hr6 (by omega) hm1, if_neg (show ¬ nI (s % 16) = 0 from nI_ne (b := 0) (by omega) (by omega) h0), if_pos (by rw [h1]; rfl), ck_t (inb_nI h2 (by decide)), clN (by omega), m_push N _ μ h (by omega), bo_s, hwd _ h2 (fun z => h7n i hin (by rw [hsg]; omega))]
            exact ih (i + 1) n m (false :: st) _ _ (by omega) (by omega) (by omega) ht1 (Sk_push hk (fun z => by cases z)) (by simp only [List.length_cons]; omega) (by simp only [List.length_cons]; omega)
          · rw [if_neg h2] at hts; cases hts
        · rw [if_neg h1] at hts
          rw [if_neg (show ¬ s % 16 < 2 by omega)] at hl
          by_cases h11 : s = 11
          · rw [if_pos h11] at hts
            subst h11
            match st, hts, hk, hl, hli with
            | [], hts, _, _, _ => cases hts
            | false :: t, hts, _, _, _ => cases hts
            | true :: t, hts, hk, hl, hli =>
              have e1 := Option.some.inj hts
              subst e1
              simp only [List.length_cons] at hl hli ⊢
              rw [cs_not hr (by omega) hj hnc hli hc, ms_pre (by omega) (by omega) hr6 (by omega) hm1, if_neg (show ¬ nI (11 % 16) = 0 by decide), if_neg (show ¬ nI (11 % 16) = 1 by decide), if_pos (show nI (11 % 16) = 11 by decide), m_pop N μ h (by omega), bd_s, m_push N _ μ h (by omega), bo_s]
              have hx := hk.2.1 rfl
              have e2 : (if f t.length = 0 then (1 : Int64) else 0) = 1 - h t.length := by
                rw [← hk.1]
                rcases hx with z | z <;> rw [z] <;> decide
              have e3 : (1 - h t.length = 0 ∨ 1 - h t.length = 1) := by
                rw [← hk.1]
                rcases hx with z | z <;> rw [z] <;> decide
              rw [e2]
              exact ih (i + 1) n m (true :: t) _ _ (by omega) (by omega) (by omega) ht1 (Sk_push hk.2.2 (fun _ => e3)) (by simp only [List.length_cons]; omega) (by simp only [List.length_cons]; omega)
          · rw [if_neg h11] at hts
            match st, hts, hk, hl, hli with
            | [], hts, _, _, _ => cases hts
            | [_], hts, _, _, _ => (rename_i q _ _ _; cases q <;> cases hts)
            | true :: false :: t, hts, _, _, _ => cases hts
            | false :: true :: t, hts, _, _, _ => cases hts
            | true :: true :: t, hts, hk, hl, hli =>
              have hts1 : (if s = 12 ∨ s = 13 then some (true :: t) else none) = some st1 := hts
              by_cases h3 : s = 12 ∨ s = 13
              · rw [if_pos h3] at hts1
                have e1 := Option.some.inj hts1
                subst e1
                simp only [List.length_cons] at hl hli ⊢
                have hs16 : s % 16 = s := by omega
                obtain ⟨k1, k2, k3, k4, k5⟩ := hk
                simp only [List.length_cons] at k1 k2
                have hv := jn_bool N s h3 (f t.length) (f (t.length + 1)) (k4 rfl) (k2 trivial)
                obtain ⟨v, hv1, hv2, hv3⟩ := hv κ
                rw [cs_bin hr (by omega) hj hnc hli hc (by omega) (fun κ' => by obtain ⟨v', q1, q2, -⟩ := hv κ'; rw [q1]; rw [q2] at hv2; rw [Option.some.inj hv2]), ms_pre (by omega) (by omega) hr6 (by omega) hm1, if_neg (show ¬ nI (s % 16) = 0 from nI_ne (b := 0) (by omega) (by omega) h0), if_neg (show ¬ nI (s % 16) = 1 from nI_ne (b := 1) (by omega) (by omega) h1), if_neg (show ¬ nI (s % 16) = 11 from nI_ne (b := 11) (by omega) (by omega) (by omega)), hs16, m_pop N μ h (by omega), bd_s, m_pop N μ h (by omega), bd_s, ← k1, ← k3, hv2, bo_s, m_push N _ μ h (by omega), bo_s]
                exact ih (i + 1) n m (true :: t) _ _ (by omega) (by omega) (by omega) ht1 (Sk_push k5 (fun _ => hv3)) (by simp only [List.length_cons]; omega) (by simp only [List.length_cons]; omega)
              · rw [if_neg h3] at hts1; cases hts1
            | false :: false :: t, hts, hk, hl, hli =>
              have hts1 : (if s = 2 ∨ s = 3 ∨ s = 4 ∨ s = 5 ∨ s = 14 then some (false :: t) else if s = 6 ∨ s = 7 ∨ s = 8 ∨ s = 9 ∨ s = 10 then some (true :: t) else none) = some st1 := hts
              simp only [List.length_cons] at hl hli ⊢
              obtain ⟨k1, k2, k3, k4, k5⟩ := hk
              simp only [List.length_cons] at k1 k2
              by_cases h3 : s = 2 ∨ s = 3 ∨ s = 4 ∨ s = 5 ∨ s = 14
              · rw [if_pos h3] at hts1
                have e1 := Option.some.inj hts1
                subst e1
                have hs16 : s % 16 = s := by omega
                have hv := jn_arith N s h3 (f t.length) (f (t.length + 1))
                obtain ⟨v, hv1, hv2⟩ := hv κ
                rw [cs_bin hr (by omega) hj hnc hli hc (by omega) (fun κ' => by obtain ⟨v', q1, q2⟩ := hv κ'; rw [q1]; rw [q2] at hv2; rw [Option.some.inj hv2]), ms_pre (by omega) (by omega) hr6 (by omega) hm1, if_neg (show ¬ nI (s % 16) = 0 from nI_ne (b := 0) (by omega) (by omega) h0), if_neg (show ¬ nI (s % 16) = 1 from nI_ne (b := 1) (by omega) (by omega) h1), if_neg (show ¬ nI (s % 16) = 11 from nI_ne (b := 11) (by omega) (by omega) (by omega)), hs16, m_pop N μ h (by omega), bd_s, m_pop N μ h (by omega), bd_s, ← k1, ← k3, hv2, bo_s, m_push N _ μ h (by omega), bo_s]
                exact ih (i + 1) n m (false :: t) _ _ (by omega) (by omega) (by omega) ht1 (Sk_push k5 (fun z => by cases z)) (by simp only [List.length_cons]; omega) (by simp only [List.length_cons]; omega)
              · rw [if_neg h3] at hts1
                by_cases h4 : s = 6 ∨ s = 7 ∨ s = 8 ∨ s = 9 ∨ s = 10
                · rw [if_pos h4] at hts1
                  have e1 := Option.some.inj hts1
                  subst e1
                  have hs16 : s % 16 = s := by omega
                  have hv := jn_cmp N s h4 (f t.length) (f (t.length + 1))
                  obtain ⟨v, hv1, hv2, hv3⟩ := hv κ
                  rw [cs_bin hr (by omega) hj hnc hli hc (by omega) (fun κ' => by obtain ⟨v', q1, q2, -⟩ := hv κ'; rw [q1]; rw [q2] at hv2; rw [Option.some.inj hv2]), ms_pre (by omega) (by omega) hr6 (by omega) hm1, if_neg (show ¬ nI (s % 16) = 0 from nI_ne (b := 0) (by omega) (by omega) h0), if_neg (show ¬ nI (s % 16) = 1 from nI_ne (b := 1) (by omega) (by omega) h1), if_neg (show ¬ nI (s % 16) = 11 from nI_ne (b := 11) (by omega) (by omega) (by omega)), hs16, m_pop N μ h (by omega), bd_s, m_pop N μ h (by omega), bd_s, ← k1, ← k3, hv2, bo_s, m_push N _ μ h (by omega), bo_s]
                  exact ih (i + 1) n m (true :: t) _ _ (by omega) (by omega) (by omega) ht1 (Sk_push k5 (fun _ => hv3)) (by simp only [List.length_cons]; omega) (by simp only [List.length_cons]; omega)
                · rw [if_neg h4] at hts1; cases hts1
end RuleRun7
section RuleSum7
variable {N : Nat} {A : Nat → Nat} {κ : Cz} {μ : Mz} {r nc k : Nat} {g s en : Nat → Nat}
theorem rr_val7 (hN : 401 ≤ N) (hA : Inj A) (hw : isK κ (A 41) 21 = true) (hw2 : ln κ (A 41) = 12) (hr : sRu κ A (300 + 5 * r) nc k) (hnc : nc ≤ 400) (hr6 : r < 6) (hg : ∀ i, i < nc → ai κ (A (300 + 5 * r + 1)) i = cOf (g i) ∧ ga 1 μ (400 * r + i) = nI (g i)) (hv : nV g nc 0 ≤ 60) (hwd : ∀ w, w < 12 → w ≠ 7 → al κ (A 41) w = gl 1 μ w) (h7n : ∀ i, i < nc → g i ≠ 113) {i j : Nat} (hij : i ≤ j) (hj : j ≤ nc) {tt : Bool} (ht : tyRun g (j - i) i [] = some [tt]) (f : Nat → Int64) (t : Nat) (h : Nat → Int64) : ∃ (v : Int64) (f1 h1 : Nat → Int64), p_Rule_valueOf N (A (300 + 5 * r)) (nI i) (nI j) (A 41) (sal (A (300 + 5 * r + 4)) f κ) = some (v, sal (A (300 + 5 * r + 4)) f1 κ) ∧ p12_reckons N (nI r) (nI i) (nI j) (mR μ t h) = some (v, mR μ 0 h1) ∧ (tt = true → v = 0 ∨ v = 1) := by
  have e : si 10 0 (mR μ t h) = mR μ 0 h := by
    show si 10 (nI 0) (si 10 (nI t) (sl 0 h μ)) = _
    rw [si_si]; rfl
  unfold p_Rule_valueOf p12_reckons
  rw [lt_s9, e]
  exact rr_run7 hA (by omega) hw hw2 hr hnc hr6 hg hwd h7n hj (j - i) i N N [] f h (by omega) (by omega) (by omega) ht trivial (by have := nV_sub g (show i + (j - i) ≤ nc by omega); simp only [List.length_nil]; omega) (by simp)
theorem rr_sum7 (hN : 401 ≤ N) (hA : Inj A) (hw : isK κ (A 41) 21 = true) (hw2 : ln κ (A 41) = 12) (hr : sRu κ A (300 + 5 * r) nc k) (hnc : nc ≤ 400) (hk12 : k ≤ 12) (hr6 : r < 6) (hck : ga 4 μ r = nI k) (hg : ∀ i, i < nc → ai κ (A (300 + 5 * r + 1)) i = cOf (g i) ∧ ga 1 μ (400 * r + i) = nI (g i)) (hv : nV g nc 0 ≤ 60) (hwd : ∀ w, w < 12 → w ≠ 7 → al κ (A 41) w = gl 1 μ w) (h7n : ∀ i, i < nc → g i ≠ 113) (hcl : ∀ c, c < k → ai κ (A (300 + 5 * r + 2)) c = nI (s c) ∧ ai κ (A (300 + 5 * r + 3)) c = nI (en (c + 1)) ∧ ga 3 μ (48 * r + 4 * c) = nI (en c) ∧ ga 3 μ (48 * r + 4 * c + 1) = nI (s c) ∧ ga 3 μ (48 * r + 4 * c + 2) = (if s c = en (c + 1) then -1 else nI (s c)) ∧ ga 3 μ (48 * r + 4 * c + 3) = nI (en (c + 1)) ∧ en c ≤ s c ∧ s c ≤ en (c + 1) ∧ en (c + 1) ≤ nc ∧ tyRun g (s c - en c) (en c) [] = some [false] ∧ (s c < en (c + 1) → tyRun g (en (c + 1) - s c) (s c) [] = some [true])) : ∀ (d c n m : Nat) (f : Nat → Int64) (t : Nat) (h : Nat → Int64), c + d = k → d < n → d < m → ∃ (v : Int64) (f1 : Nat → Int64) (t1 : Nat) (h1 : Nat → Int64), b_Rule_sumFor_4 N n (A (300 + 5 * r)) (A 41) (nI (en c)) (nI c) (sal (A (300 + 5 * r + 4)) f κ) = some (v, sal (A (300 + 5 * r + 4)) f1 κ) ∧ b12_summedBy_2 N m (nI r) (nI c) (mR μ t h) = some (v, mR μ t1 h1) := by
  intro d
  induction d with
  | zero =>
    intro c n m f t h hc hn hm
    obtain ⟨n, rfl⟩ : ∃ q, n = q + 1 := ⟨n - 1, by omega⟩
    obtain ⟨m, rfl⟩ : ∃ q, m = q + 1 := ⟨m - 1, by omega⟩
    have e : c = k := by omega
    subst e
    refine ⟨0, f, t, h, ?_, ?_⟩
    · rw [b_Rule_sumFor_4]
      simp -implicitDefEqProofs only [isK_al, fr_al, ln_al, hr, ck_1, bo_s]
      rw [if_pos (nI_le (Nat.le_refl c) (by omega))]
    · rw [b12_summedBy_2, ck_t (inb_nI hr6 (by decide)), clN (by omega), mR_ga, hck, if_pos (nI_le (Nat.le_refl c) (by omega))]
  | succ d ih =>
    intro c n m f t h hc hn hm
    obtain ⟨n, rfl⟩ : ∃ q, n = q + 1 := ⟨n - 1, by omega⟩
    obtain ⟨m, rfl⟩ : ∃ q, m = q + 1 := ⟨m - 1, by omega⟩
    have hck2 : c < k := by omega
    obtain ⟨a1, a2, a3, a4, a5, a6, a7, a8, a9, a10, a11⟩ := hcl c hck2
    -- the sum of this clause, from any two stacks
    have hsum : ∀ (f : Nat → Int64) (t : Nat) (h : Nat → Int64), ∃ (v : Int64) (f1 : Nat → Int64) (t1 : Nat) (h1 : Nat → Int64), b_Rule_sumFor_62 N (A (300 + 5 * r)) (A 41) (nI (en c)) (nI c) (sal (A (300 + 5 * r + 4)) f κ) = some (v, sal (A (300 + 5 * r + 4)) f1 κ) ∧ b12_summedBy_58 N (nI r) (nI (48 * r + 4 * c)) (mR μ t h) = some (v, mR μ t1 h1) := by
      intro f t h
      obtain ⟨v, f1, h1, e1, e2, -⟩ := rr_val7 hN hA hw hw2 hr hnc hr6 hg hv hwd h7n a7 (by omega) a10 f t h
      refine ⟨v, f1, 0, h1, ?_, ?_⟩
      · unfold b_Rule_sumFor_62
        simp -implicitDefEqProofs only [isK_al, fr_al, ln_al, ai_al, hr, ck_1, bo_s, inbT hck2 (show k < 2147483648 by omega), clN (show c < 2147483648 by omega), a1, e1, bd_s]
      · unfold b12_summedBy_58
        simp only [nI_1, lt_s9, inbT (show 48 * r + 4 * c < 288 by omega) (by decide), inbT (show 48 * r + 4 * c + 1 < 288 by omega) (by decide), ck_1, mR_ga, clN (show 48 * r + 4 * c < 2147483648 by omega), clN (show 48 * r + 4 * c + 1 < 2147483648 by omega), a3, a4, e2, bd_s]
    rw [b_Rule_sumFor_4, b12_summedBy_2, ck_t (inb_nI hr6 (by decide)), clN (show r < 2147483648 by omega), mR_ga, hck, if_neg (nI_ge hck2 (by omega))]
    simp -implicitDefEqProofs only [isK_al, fr_al, ln_al, ai_al, hr, ck_1, bo_s, inbT hck2 (show k < 2147483648 by omega), clN (show c < 2147483648 by omega), a1, a2]
    rw [if_neg (nI_ge hck2 (by omega))]
    rw [show (48 : Int32) = nI 48 from rfl, show (4 : Int32) = nI 4 from rfl, pk_mul, pk_mul, nI_add]
    simp only [lt_s9]
    rw [show (2 : Int32) = nI 2 from rfl, show (3 : Int32) = nI 3 from rfl, nI_add, nI_add]
    simp only [inbT (show 48 * r + 4 * c + 2 < 288 by omega) (by decide), inbT (show 48 * r + 4 * c + 3 < 288 by omega) (by decide), ck_1, mR_ga, clN (show 48 * r + 4 * c + 2 < 2147483648 by omega), clN (show 48 * r + 4 * c + 3 < 2147483648 by omega), a5, a6]
    by_cases hz : s c = en (c + 1)
    · rw [if_pos (nI_le (by omega) (by omega)), if_pos hz, if_pos (by decide)]
      unfold b_Rule_sumFor_33
      rw [if_pos rfl]
      exact hsum f t h
    · rw [if_neg (nI_ge (by omega) (by omega)), if_neg hz, if_neg (nI_pos (by omega))]
      unfold b_Rule_sumFor_33
      rw [if_neg (by decide)]
      obtain ⟨v, f1, h1, e1, e2, e3⟩ := rr_val7 hN hA hw hw2 hr hnc hr6 hg hv hwd h7n a8 a9 (a11 (by omega)) f t h
      simp -implicitDefEqProofs only [isK_al, fr_al, ln_al, ai_al, hr, ck_1, bo_s, inbT hck2 (show k < 2147483648 by omega), clN (show c < 2147483648 by omega), a1, a2, e1, e2, bd_s, lt_s9, nI_1]
      rcases e3 rfl with z | z
      · subst z
        rw [if_pos (by decide), if_neg (by decide)]
        exact ih (c + 1) n m f1 0 h1 (by omega) (by omega) (by omega)
      · subst z
        rw [if_neg (by decide), if_pos (by decide)]
        exact hsum f1 0 h1
end RuleSum7
/-- rule r does not ask for PURSE -/
def NoP (κ : Cz) (A : Nat → Nat) (r : Nat) : Prop := ∀ i, i < ln κ (A (300 + 5 * r + 1)) → ¬ ai κ (A (300 + 5 * r + 1)) i = -8
theorem NoP.chg {κ κ1 : Cz} {A : Nat → Nat} {r : Nat} {L : Nat → Prop} (h : NoP κ A r) (g : Chg A L κ κ1) (hL : ∀ q, 300 ≤ q → q % 5 ≠ 4 → ¬ L q) : NoP κ1 A r := by
  unfold NoP
  rw [g.ln, g.ai (hL _ (by omega) (by omega))]
  exact h
theorem rule_sum7 {N : Nat} (hN : 401 ≤ N) {A : Nat → Nat} {κ : Cz} {μ : Mz} {r : Nat} (hA : Inj A) (hp : sPr κ A) (hr6 : r < 6) (hnp : NoP κ A r) (hR : RuC κ A μ r) (hwd : ∀ w, w < 12 → w ≠ 7 → al κ (A 41) w = gl 1 μ w) : ∃ (v : Int64) (f1 : Nat → Int64) (t1 : Nat) (h1 : Nat → Int64), p_Rule_sumFor N (A (300 + 5 * r)) (A 41) κ = some (v, sal (A (300 + 5 * r + 4)) f1 κ) ∧ p12_summedBy N (nI r) μ = some (v, si 10 (nI t1) (sl 0 h1 μ)) := by
  obtain ⟨nc, k, g, s, en, hr, hnc, hk, hck, hg, h0, hv, hcl⟩ := hR
  obtain ⟨t, ht⟩ : ∃ t : Nat, gi 10 μ = nI t := ⟨(gi 10 μ).toBitVec.toNat, Int32.toBitVec_inj.mp (by show _ = BitVec.ofNat 32 _; simp)⟩
  have e1 : mR μ t (gl 0 μ) = μ := by
    rw [mR, sl_gl, ← ht]
    exact si_gi 10 μ
  have h7n : ∀ i, i < nc → g i ≠ 113 := fun i hi z => hnp i (by rw [hr.2.2.2.2.2.2.1]; exact hi) (by rw [(hg i hi).1, z]; decide)
  have h3 := rr_sum7 hN hA hp.2.2.2.1 hp.2.2.2.2 hr hnc hk hr6 hck hg hv hwd h7n hcl k 0 N N (al κ (A (300 + 5 * r + 4))) t (gl 0 μ) (by omega) (by omega) (by omega)
  rw [sal_eta, e1, h0, nI_0] at h3
  exact h3
/-! with another purse -/
def pu (S : Nat → Int32) (v : Int32) : Nat → Int32 := upd S 11 v
theorem pu_o (S : Nat → Int32) (v : Int32) {j : Nat} (h : j ≠ 11) : pu S v j = S j := by
  unfold pu
  rw [upd_at, if_neg h]
theorem pu_11 (S : Nat → Int32) (v : Int32) : pu S v 11 = v := by
  unfold pu
  rw [upd_at, if_pos rfl]
theorem sWr_pu (S : Nat → Int32) (v : Int32) (k : Nat) : sWr (pu S v) k = sWr S k := by
  unfold sWr
  rw [pu_o S v (by omega), pu_o S v (by omega)]
theorem sWrong_pu (S : Nat → Int32) (v : Int32) (c : Nat) : sWrong (pu S v) c = sWrong S c := by
  unfold sWrong
  exact bitsF_cong 0 (fun k hk => sWr_pu S v k)
theorem sLs_pu (S : Nat → Int32) (v : Int32) (c k : Nat) : sLs (pu S v) c k = sLs S c k := by
  unfold sLs
  rw [sWr_pu, sWrong_pu, pu_o S v (by omega)]
theorem sLoose_pu (S : Nat → Int32) (v : Int32) (c : Nat) : sLoose (pu S v) c = sLoose S c := by
  unfold sLoose
  exact bitsF_cong 0 (fun k hk => sLs_pu S v c k)
theorem ovF_pu (S : Nat → Int32) (v : Int32) (k : Nat) : ∀ n, ovF (pu S v) k n = ovF S k n
  | 0 => rfl
  | n + 1 => by
    rw [ovF, ovF, ovF_pu S v k n, sWr_pu, pu_o S v (by omega)]
theorem wS_pu (S : Nat → Int32) (v : Int32) (c h e k : Nat) {w : Nat} (hw : w ≠ 7) : wS (pu S v) c h e k w = wS S c h e k w := by
  unfold wS
  rw [ovF_pu, sLoose_pu, sWrong_pu, if_neg hw, if_neg hw, pu_o S v (by omega), pu_o S v (by omega), pu_o S v (by omega), pu_o S v (by omega), pu_o S v (by omega), pu_o S v (by omega), pu_o S v (by omega)]
theorem ch_loop7 (N : Nat) (hN : 401 ≤ N) {A : Nat → Nat} {b c h e r : Nat} {S : Nat → Int32} {pv : Int32} (hb : Hb b) (hb0 : S 0 = 1) (hc : S 3 = nI c) (hc10 : c ≤ 10) (hh : S 2 = nI h) (h12 : h ≤ 12) (he : S 10 = nI e) (he2 : e < 2 ^ 31) (hr6 : r < 6) : ∀ (d i n m : Nat) (κ : Cz) (μ : Mz) (best : Int32) (most : Int64), i + d = c → d < n → d < m → Sh κ A → sSt κ A b → Bk κ A 21 S → St κ A b S → fr κ (A 40) 2 = some (A (300 + 5 * r)) → RuC κ A μ r → NoP κ A r → ga 7 μ = pu S pv → gi 11 μ = nI r → (∀ k w, w < 12 → w = 4 ∨ w = 5 ∨ 7 ≤ w → al κ (A 41) w = wS S c h e k w) → ∃ (res : Int32) (κ1 : Cz) (μ1 : Mz), b_Press_chosen_47 N n (A 40) (A b) (sWrong S c) (sLoose S c) best most (nI i) κ = some (res, κ1) ∧ b12_choice_7 N m best most (nI i) μ = some (res, μ1) ∧ Chg A Lc κ κ1 ∧ MCh (fun k => k = 10) (fun _ => False) μ μ1 ∧ (res = best ∨ ∃ k, k < c ∧ res = nI k) := by
  intro d
  induction d with
  | zero =>
    intro i n m κ μ best most hi hn hm hs ht hB hS hf hR hnp h7 h11 hw
    obtain ⟨n, rfl⟩ : ∃ q, n = q + 1 := ⟨n - 1, by omega⟩
    obtain ⟨m, rfl⟩ : ∃ q, m = q + 1 := ⟨m - 1, by omega⟩
    have e1 : i = c := by omega
    subst e1
    refine ⟨best, κ, μ, ?_, ?_, Chg.refl _ _ _, MCh.refl _ _ _, Or.inl rfl⟩
    · rw [b_Press_chosen_47]
      simp -implicitDefEqProofs only [hs.pr, hs.w20, ck_1, bo_s, hB.2.2.1, hc]
      rw [if_pos (nI_le (Nat.le_refl i) (by omega))]
    · rw [b12_choice_7, show ga 7 μ (3 : Int32).toNatClampNeg = nI i from by rw [h7]; exact hc, if_pos (nI_le (Nat.le_refl i) (by omega))]
  | succ d ih =>
    intro i n m κ μ best most hi hn hm hs ht hB hS hf hR hnp h7 h11 hw
    obtain ⟨n, rfl⟩ : ∃ q, n = q + 1 := ⟨n - 1, by omega⟩
    obtain ⟨m, rfl⟩ : ∃ q, m = q + 1 := ⟨m - 1, by omega⟩
    have hic : i < c := by omega
    have hi10 : i < 10 := by omega
    have hbt : bt (sLoose S c) i = sLs S c i := by
      rw [sLoose, bt_bitsF _ _ hc10]
      simp [hic]
    have h7c : ga 7 μ 3 = nI c := by rw [h7, pu_o S pv (by decide)]; exact hc
    rw [b_Press_chosen_47, b12_choice_7, show ga 7 μ (3 : Int32).toNatClampNeg = nI c from h7c, if_neg (nI_ge hic (by omega)), m_isLoose N (by omega) μ h7c hc10 hic, bd_s, h7, sLs_pu]
    simp -implicitDefEqProofs only [hs.pr, hs.w20, ck_1, bo_s, bd_s, hB.2.2.1, hc, c_hasBit N _ (show i < 32 by omega), hbt]
    rw [if_neg (nI_ge hic (by omega))]
    by_cases hl : sLs S c i = true
    · rw [if_pos hl, if_neg (by decide), if_neg (by decide), h11, if_pos (nI_pos' (by omega))]
      obtain ⟨f, ef, hfw⟩ := c_tellWordsOf N (by omega) hs ht hB hS hc hc10 hi10 (h := h) (e := e) (hw i)
      have h7' := h7
      obtain ⟨f2, ef2, hfw2⟩ := m_sumOf N (by omega) (μ := μ) (c := c) (h := h) (e := e) (k := i) h7c hc10 (by rw [h7, pu_o S pv (by decide)]; exact hb0) (by rw [h7, pu_o S pv (by decide)]; exact hh) h12 (by rw [h7, pu_o S pv (by decide)]; exact he) he2 hi10
      rw [ef, bo_s]
      have hA := hs.inj
      have g1 : Chg A Lc κ (sal (A 41) f κ) := Chg.sal hA κ (Or.inl rfl) f
      have hs1 := hs.chg g1
      have hR1 : RuC (sal (A 41) f κ) A (sl 1 f2 μ) r := hR.chg g1 Lc.n300 rfl rfl rfl
      obtain ⟨v, f3, t3, h3, e3, e4⟩ := rule_sum7 hN hA hs1.pr hr6 (hnp.chg g1 Lc.n300) hR1 (fun w hw hw7 => by rw [al_al, if_pos rfl, gl_sl, hfw w hw, hfw2 w hw, h7, wS_pu S pv c h e i hw7])
      rw [ef2, h11, e4, bd_s]
      have hf1 : fr (sal (A 41) f κ) (A 40) 2 = some (A (300 + 5 * r)) := by rw [fr_al]; exact hf
      have hru : isK (sal (A 41) f κ) (A (300 + 5 * r)) 6 = true := by
        obtain ⟨_, _, _, _, _, z, _⟩ := hR1
        exact z.1
      simp -implicitDefEqProofs only [hs1.pr, ck_1, hf1, oc_s, bo_s, hru, e3, bd_s, lt_s9, nI_1]
      have g2 : Chg A Lc (sal (A 41) f κ) (sal (A (300 + 5 * r + 4)) f3 (sal (A 41) f κ)) := Chg.sal hA _ (Or.inr ⟨by omega, by omega⟩) f3
      have g3 := g1.trans g2
      have mc : MCh (fun k => k = 10) (fun _ => False) μ (si 10 (nI t3) (sl 0 h3 (sl 1 f2 μ))) := ⟨fun k hk => by rw [gi_si_ne hk]; rfl, fun _ _ => rfl, fun _ => rfl⟩
      have hwn : ∀ k w, w < 12 → w = 4 ∨ w = 5 ∨ 7 ≤ w → al (sal (A (300 + 5 * r + 4)) f3 (sal (A 41) f κ)) (A 41) w = wS S c h e k w := by
        intro k w hw1 hw2
        rw [al_al, if_neg (hA.ne (by omega)), al_al, if_pos rfl, hfw w hw1, ← hw i w hw1 hw2, hw k w hw1 hw2]
      have hR2 := hR.chg (μ1 := si 10 (nI t3) (sl 0 h3 (sl 1 f2 μ))) g3 Lc.n300 rfl rfl rfl
      have step : ∀ (best : Int32) (most : Int64), ∃ (res : Int32) (κ1 : Cz) (μ1 : Mz), b_Press_chosen_47 N n (A 40) (A b) (sWrong S c) (sLoose S c) best most (nI (i + 1)) (sal (A (300 + 5 * r + 4)) f3 (sal (A 41) f κ)) = some (res, κ1) ∧ b12_choice_7 N m best most (nI (i + 1)) (si 10 (nI t3) (sl 0 h3 (sl 1 f2 μ))) = some (res, μ1) ∧ Chg A Lc κ κ1 ∧ MCh (fun k => k = 10) (fun _ => False) μ μ1 ∧ (res = best ∨ ∃ k, k < c ∧ res = nI k) := by
        intro best most
        obtain ⟨res, κ1, μ1, q1, q2, q3, q4, q5⟩ := ih (i + 1) n m _ (si 10 (nI t3) (sl 0 h3 (sl 1 f2 μ))) best most (by omega) (by omega) (by omega) (hs.chg g3) (ht.chg g3) (hB.chg g3 Lc.n21) (hS.chg g3 (Lc.nb hb)) hf1 hR2 (hnp.chg g3 Lc.n300) h7 (by rw [gi_si_ne (by decide)]; exact h11) hwn
        exact ⟨res, κ1, μ1, q1, q2, g3.trans q3, mc.trans q4, q5⟩
      unfold b12_choice_47
      simp only [lt_s9, nI_1]
      by_cases hcmp : lg_cmp v most ≤ 0
      · rw [if_pos hcmp, if_neg (Int32.not_lt.mpr hcmp)]
        exact step best most
      · rw [if_neg hcmp, if_pos (Int32.not_le.mp hcmp)]
        obtain ⟨res, κ1, μ1, q1, q2, q3, q4, q5⟩ := step (nI i) v
        refine ⟨res, κ1, μ1, q1, q2, q3, q4, ?_⟩
        rcases q5 with q | q
        · exact Or.inr ⟨i, hic, q⟩
        · exact Or.inr q
    · rw [if_neg hl, if_pos rfl, if_pos rfl]
      simp only [lt_s9, nI_1]
      exact ih (i + 1) n m κ μ best most (by omega) (by omega) (by omega) hs ht hB hS hf hR hnp h7 h11 hw
theorem choice7 (N : Nat) (hN : 401 ≤ N) {A : Nat → Nat} {κ : Cz} {μ : Mz} {b c h e : Nat} {S : Nat → Int32} {pv : Int32} (hb : Hb b) (hs : Sh κ A) (ht : sSt κ A b) (hB : Bk κ A 21 S) (hS : St κ A b S) (hb0 : S 0 = 1) (hc : S 3 = nI c) (hc10 : c ≤ 10) (hh : S 2 = nI h) (h12 : h ≤ 12) (he : S 10 = nI e) (he2 : e < 2 ^ 31) (hF : RF κ A μ) (hnp : ∀ r, fr κ (A 40) 2 = some (A (300 + 5 * r)) → NoP κ A r) (h7 : ga 7 μ = pu S pv) : ∃ (res : Int32) (κ1 : Cz) (μ1 : Mz), p_Press_chosen N (A 40) (A b) κ = some (res, κ1) ∧ p12_choice N μ = some (res, μ1) ∧ Chg A Lc κ κ1 ∧ MCh (fun k => k = 10) (fun _ => False) μ μ1 ∧ (res = -1 ∨ ∃ k, k < c ∧ res = nI k) := by
  unfold p_Press_chosen p12_choice
  simp -implicitDefEqProofs only [hs.pr, ck_1, c_wrongOf N (by omega) hs ht hB hS hc hc10, bd_s, c_looseOfWrong N (by omega) hs ht hB hS hc hc10]
  have h7c : ga 7 μ 3 = nI c := by rw [h7, pu_o S pv (by decide)]; exact hc
  rcases hF with ⟨f1, f2⟩ | ⟨r, f1, f2, f3, f4⟩
  · have hm := m_choice0 N (by omega) μ h7c hc10 f1 c 0 N (by omega) (by omega) (fun j hj => absurd hj (by omega))
    rw [h7, sLoose_pu, nI_0] at hm
    rw [hm]
    by_cases z : sLoose S c = 0
    · rw [if_pos z, if_pos z]
      exact ⟨-1, κ, μ, rfl, rfl, Chg.refl _ _ _, MCh.refl _ _ _, Or.inl rfl⟩
    · rw [if_neg z, if_neg z, f2, oc_n, c_tz, bd_s]
      obtain ⟨k, k1, k2, -, -⟩ := tz_F _ hc10 z
      exact ⟨_, κ, μ, rfl, rfl, Chg.refl _ _ _, MCh.refl _ _ _, Or.inr ⟨k, k1, k2⟩⟩
  · by_cases z : sLoose S c = 0
    · -- none is loose: the reference goes through and finds none
      rw [if_pos z]
      have hz : ∀ k, k < c → sLs S c k = false := (bitsF_0 _ hc10).mp z
      have hm : ∀ (d i n : Nat), i + d = c → d < n → b12_choice_7 N n (-1) 0 (nI i) μ = some (-1, μ) := by
        intro d
        induction d with
        | zero =>
          intro i n hi hn
          obtain ⟨n, rfl⟩ : ∃ m, n = m + 1 := ⟨n - 1, by omega⟩
          have e : i = c := by omega
          subst e
          rw [b12_choice_7, show ga 7 μ (3 : Int32).toNatClampNeg = nI i from h7c, if_pos (nI_le (Nat.le_refl i) (by omega))]
        | succ d ih =>
          intro i n hi hn
          obtain ⟨n, rfl⟩ : ∃ m, n = m + 1 := ⟨n - 1, by omega⟩
          rw [b12_choice_7, show ga 7 μ (3 : Int32).toNatClampNeg = nI c from h7c, if_neg (nI_ge (show i < c by omega) (by omega)), m_isLoose N (by omega) μ h7c hc10 (by omega), bd_s, h7, sLs_pu, hz i (by omega), if_neg (show ¬ false = true by decide), if_pos rfl, lt_s9, nI_1]
          exact ih (i + 1) n (by omega) (by omega)
      have hm0 := hm c 0 N (by omega) (by omega)
      rw [nI_0] at hm0
      exact ⟨-1, κ, μ, rfl, hm0, Chg.refl _ _ _, MCh.refl _ _ _, Or.inl rfl⟩
    · rw [if_neg z, f3, oc_s]
      obtain ⟨f, ef, hfw⟩ := c_tellWords N (c := c) hs ht hB hS hh h12 he he2 0
      have hind : ∀ k w, w < 12 → w = 4 ∨ w = 5 ∨ 7 ≤ w → f w = wS S c h e k w := by
        intro k w h1 h2
        rw [hfw w h1 h2]
        have hw : w = 4 ∨ w = 5 ∨ w = 7 ∨ w = 8 ∨ w = 9 ∨ w = 10 ∨ w = 11 := by omega
        rcases hw with rfl | rfl | rfl | rfl | rfl | rfl | rfl <;> simp [wS]
      have hA := hs.inj
      have g1 : Chg A Lc κ (sal (A 41) f κ) := Chg.sal hA κ (Or.inl rfl) f
      rw [ef, bo_s]
      obtain ⟨res, κ1, μ1, q1, q2, q3, q4, q5⟩ := ch_loop7 N hN (pv := pv) hb hb0 hc hc10 hh h12 he he2 f1 c 0 N N _ μ (-1) 0 (by omega) (by omega) (by omega) (hs.chg g1) (ht.chg g1) (hB.chg g1 Lc.n21) (hS.chg g1 (Lc.nb hb)) (by rw [fr_al]; exact f3) (f4.chg (μ1 := μ) g1 Lc.n300 rfl rfl rfl) ((hnp r f3).chg g1 Lc.n300) h7 f2 (fun k w h1 h2 => by rw [al_al, if_pos rfl]; exact hind k w h1 h2)
      exact ⟨res, κ1, μ1, q1, q2, g1.trans q3, q4, q5⟩
