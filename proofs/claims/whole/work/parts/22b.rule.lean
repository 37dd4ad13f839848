/-! one after the other, the class's stack and the reference's -/
theorem sal_sal (a : Nat) (f h : Nat → Int64) (κ : Cz) : sal a f (sal a h κ) = sal a f κ := by
  simp only [sal]
  congr 7
  funext j
  by_cases h : j = a <;> simp [va_up, h]
def mR (μ : Mz) (t : Nat) (h : Nat → Int64) : Mz := si 10 (nI t) (sl 0 h μ)
theorem mR_gi (μ : Mz) (t : Nat) (h : Nat → Int64) : gi 10 (mR μ t h) = nI t := gi_si _ _ _
theorem mR_gl (μ : Mz) (t : Nat) (h : Nat → Int64) : gl 0 (mR μ t h) = h := by rw [mR, gl_si, gl_sl]
theorem mR_gl1 (μ : Mz) (t : Nat) (h : Nat → Int64) : gl 1 (mR μ t h) = gl 1 μ := by rw [mR, gl_si, gl_sl_ne (by decide)]
theorem mR_ga (μ : Mz) (t : Nat) (h : Nat → Int64) (k : Nat) : ga k (mR μ t h) = ga k μ := rfl
theorem sl_sl (k : Nat) (f g : Nat → Int64) (μ : Mz) : sl k f (sl k g μ) = sl k f μ := by
  simp only [sl]
  congr 3
  funext j
  by_cases h : j = k <;> simp [va_up, h]
theorem sl_si (k j : Nat) (f : Nat → Int64) (v : Int32) (μ : Mz) : sl k f (si j v μ) = si j v (sl k f μ) := rfl
theorem mR_set (μ : Mz) (t t1 : Nat) (h h1 : Nat → Int64) : si 10 (nI t1) (sl 0 h1 (mR μ t h)) = mR μ t1 h1 := by
  rw [mR, sl_si, sl_sl, si_si]; rfl
theorem m_push (N : Nat) (v : Int64) (μ : Mz) {t : Nat} (h : Nat → Int64) (ht : t < 64) : p12_push N v (mR μ t h) = some (mR μ (t + 1) (vp_updL h t v)) := by
  unfold p12_push
  rw [mR_gi, ck_t (inb_nI ht (by decide)), lt_s9, lt_s9, mR_gl, clN (by omega)]
  have e : gi 10 (sl 0 (vp_updL h t v) (mR μ t h)) = nI t := by rw [gi_sl, mR_gi]
  rw [e, nI_1, mR_set]
theorem m_pop (N : Nat) (μ : Mz) {t : Nat} (h : Nat → Int64) (ht : t < 64) : p12_pop N (mR μ (t + 1) h) = some (h t, mR μ t h) := by
  unfold p12_pop
  have e : si 10 (gi 10 (mR μ (t + 1) h) - 1) (mR μ (t + 1) h) = mR μ t h := by
    rw [mR_gi, nI_pred, mR, si_si]; rfl
  rw [e, lt_s9, lt_s9, mR_gi, ck_t (inb_nI ht (by decide)), mR_gl, clN (by omega)]
section RuleRun
variable {N : Nat} {A : Nat → Nat} {κ : Cz} {μ : Mz} {B r nc k : Nat} {g : Nat → Nat}
theorem not_le_20 {v : Nat} (h : v < 2 ^ 31) : ¬ nI v ≤ (-20 : Int32) := by
  intro z
  have := Int32.le_iff_toInt_le.mp z
  rw [nI_toInt h] at this
  have e : ((-20 : Int32)).toInt = -20 := by decide
  omega
theorem word_cd : ∀ w, w < 12 → ¬ ((-1 : Int32) - nI w ≤ (-20)) ∧ ((-1 : Int32) - nI w < 0) ∧ (-1 : Int32) - ((-1) - nI w) = nI w := by decide +kernel
theorem cOf_0 {s : Nat} (h : s % 16 = 0) : cOf s = nI (s / 16) := if_pos h
theorem cOf_1 {s : Nat} (h : s % 16 = 1) : cOf s = (-1) - nI (s / 16) := by
  unfold cOf
  rw [if_neg (by omega), if_pos h]
theorem cs_num (hr : sRu κ A B nc k) {n i j t s : Nat} {f : Nat → Int64} (hi : i < j) (hj : j ≤ nc) (hnc : nc ≤ 400) (ht : t ≤ i) (hc : ai κ (A (B + 1)) i = cOf s) (h0 : s % 16 = 0) (h1 : s / 16 < 100000) : b_Rule_valueOf_6 N (n + 1) (A B) (nI j) (A 41) (nI t) (nI i) (sal (A (B + 4)) f κ) = b_Rule_valueOf_6 N n (A B) (nI j) (A 41) (nI (t + 1)) (nI (i + 1)) (sal (A (B + 4)) (vp_updL f t (nI (s / 16)).toInt64) κ) := by
  rw [b_Rule_valueOf_6, if_neg (nI_ge hi (by omega))]
  rw [cOf_0 h0] at hc
  simp -implicitDefEqProofs only [isK_al, fr_al, ln_al, ai_al, al_al, hr, ck_1, bo_s, lt_s9, inbT (show i < nc by omega) (show nc < 2147483648 by omega), clN (show i < 2147483648 by omega), clN (show t < 2147483648 by omega), hc, if_true, nI_1, inbT (show t < nc + 1 by omega) (show nc + 1 < 2147483648 by omega)]
  rw [if_neg (not_le_20 (by omega)), if_neg (nI_ge (show t < nc + 1 by omega) (by omega)), if_neg (nI_pos (by omega))]
  rw [sal_sal]
theorem cs_word (hA : Inj A) (hB : 300 ≤ B) (hw : isK κ (A 41) 21 = true) (hw2 : ln κ (A 41) = 12) (hr : sRu κ A B nc k) {n i j t s : Nat} {f : Nat → Int64} (hi : i < j) (hj : j ≤ nc) (hnc : nc ≤ 400) (ht : t ≤ i) (hc : ai κ (A (B + 1)) i = cOf s) (h0 : s % 16 = 1) (h1 : s / 16 < 12) : b_Rule_valueOf_6 N (n + 1) (A B) (nI j) (A 41) (nI t) (nI i) (sal (A (B + 4)) f κ) = b_Rule_valueOf_6 N n (A B) (nI j) (A 41) (nI (t + 1)) (nI (i + 1)) (sal (A (B + 4)) (vp_updL f t (al κ (A 41) (s / 16))) κ) := by
  rw [b_Rule_valueOf_6, if_neg (nI_ge hi (by omega))]
  rw [cOf_1 h0] at hc
  have n1 : ¬ A 41 = A (B + 4) := hA.ne (by omega)
  simp -implicitDefEqProofs only [isK_al, fr_al, ln_al, ai_al, al_al, hr, hw, hw2, ck_1, bo_s, lt_s9, inbT (show i < nc by omega) (show nc < 2147483648 by omega), clN (show i < 2147483648 by omega), clN (show t < 2147483648 by omega), hc, if_true, nI_1, inbT (show t < nc + 1 by omega) (show nc + 1 < 2147483648 by omega), (word_cd _ h1).2.2, inbT h1 (by decide), clN (show s / 16 < 2147483648 by omega), n1, if_false]
  rw [if_neg (word_cd _ h1).1, if_neg (nI_ge (show t < nc + 1 by omega) (by omega)), if_pos (word_cd _ h1).2.1]
  rw [sal_sal]
theorem sub1 (t : Nat) : nI (t + 1) - 1 = nI t := nI_pred t
theorem cs_not (hr : sRu κ A B nc k) {n i j t : Nat} {f : Nat → Int64} (hi : i < j) (hj : j ≤ nc) (hnc : nc ≤ 400) (ht : t + 1 ≤ i) (hc : ai κ (A (B + 1)) i = -20) : b_Rule_valueOf_6 N (n + 1) (A B) (nI j) (A 41) (nI (t + 1)) (nI i) (sal (A (B + 4)) f κ) = b_Rule_valueOf_6 N n (A B) (nI j) (A 41) (nI (t + 1)) (nI (i + 1)) (sal (A (B + 4)) (vp_updL f t (if f t = 0 then 1 else 0)) κ) := by
  rw [b_Rule_valueOf_6, if_neg (nI_ge hi (by omega))]
  simp -implicitDefEqProofs only [isK_al, fr_al, ln_al, ai_al, al_al, hr, ck_1, bo_s, lt_s9, inbT (show i < nc by omega) (show nc < 2147483648 by omega), clN (show i < 2147483648 by omega), clN (show t < 2147483648 by omega), hc, if_true, nI_1, sub1, inbT (show t < nc + 1 by omega) (show nc + 1 < 2147483648 by omega)]
  rw [if_pos (by decide), if_neg (by rw [show (1 : Int32) = nI 1 from rfl]; exact nI_nlt (by omega) (by omega))]
  by_cases z : f t = 0
  · rw [if_pos ((lg_cmp_eq _ _).mpr z), if_pos z, sal_sal]
  · rw [if_neg (fun q => z ((lg_cmp_eq _ _).mp q)), if_neg z, sal_sal]
theorem bin_cd {s : Nat} (h : s = 12 ∨ s = 13 ∨ s = 2 ∨ s = 3 ∨ s = 4 ∨ s = 5 ∨ s = 14 ∨ s = 6 ∨ s = 7 ∨ s = 8 ∨ s = 9 ∨ s = 10) : cOf s ≤ (-20) ∧ ¬ cOf s = (-20) := by
  rcases h with rfl | rfl | rfl | rfl | rfl | rfl | rfl | rfl | rfl | rfl | rfl | rfl <;> decide
theorem cs_bin (hr : sRu κ A B nc k) {n i j t s : Nat} {f : Nat → Int64} {v : Int64} (hi : i < j) (hj : j ≤ nc) (hnc : nc ≤ 400) (ht : t + 2 ≤ i) (hc : ai κ (A (B + 1)) i = cOf s) (h : s = 12 ∨ s = 13 ∨ s = 2 ∨ s = 3 ∨ s = 4 ∨ s = 5 ∨ s = 14 ∨ s = 6 ∨ s = 7 ∨ s = 8 ∨ s = 9 ∨ s = 10) (hv : ∀ κ : Cz, p_Rule_joined N (cOf s) (f t) (f (t + 1)) κ = some (v, κ)) : b_Rule_valueOf_6 N (n + 1) (A B) (nI j) (A 41) (nI (t + 2)) (nI i) (sal (A (B + 4)) f κ) = b_Rule_valueOf_6 N n (A B) (nI j) (A 41) (nI (t + 1)) (nI (i + 1)) (sal (A (B + 4)) (vp_updL f t v) κ) := by
  rw [b_Rule_valueOf_6, if_neg (nI_ge hi (by omega))]
  have e1 : nI (t + 2) + -1 = nI (t + 1) := pk_m1 (t + 1)
  simp -implicitDefEqProofs only [isK_al, fr_al, ln_al, ai_al, al_al, hr, ck_1, bo_s, bd_s, lt_s9, inbT (show i < nc by omega) (show nc < 2147483648 by omega), clN (show i < 2147483648 by omega), clN (show t < 2147483648 by omega), clN (show t + 1 < 2147483648 by omega), hc, if_true, nI_1, e1, sub1, inbT (show t < nc + 1 by omega) (show nc + 1 < 2147483648 by omega), inbT (show t + 1 < nc + 1 by omega) (show nc + 1 < 2147483648 by omega), hv]
  rw [if_pos (bin_cd h).1, if_neg (bin_cd h).2, if_neg (by rw [show (2 : Int32) = nI 2 from rfl]; exact nI_nlt (by omega) (by omega))]
  rw [sal_sal]
theorem sg_lo {s : Nat} (h : s < 2 ^ 31) : nI s &&& 15 = nI (s % 16) := pk_andN (show s < 2 ^ 32 by omega) 4 (by decide)
theorem sg_hi {s : Nat} (h : s < 2 ^ 31) : nI s >>> (4 &&& 31) = nI (s / 16) := pk_shrN h _ 4 (by decide)
theorem ms_pre {n i j t s : Nat} {h : Nat → Int64} (hi : i < j) (hj : j ≤ 400) (hr6 : r < 6) (hs : s < 2 ^ 31) (hg : ga 1 μ (400 * r + i) = nI s) : b12_reckons_8 N (n + 1) (nI r) (nI j) (nI i) (mR μ t h) = (if nI (s % 16) = 0 then bo (p12_push N (nI (s / 16)).toInt64 (mR μ t h)) (fun μ20 => b12_reckons_8 N n (nI r) (nI j) (nI (i + 1)) μ20) else if nI (s % 16) = 1 then ck (inb (nI (s / 16)) 12) (bo (p12_push N (gl 1 μ (nI (s / 16)).toNatClampNeg) (mR μ t h)) (fun μ18 => b12_reckons_8 N n (nI r) (nI j) (nI (i + 1)) μ18)) else if nI (s % 16) = 11 then bd (p12_pop N (mR μ t h)) (fun r14 μ14 => bo (p12_push N (1 - r14) μ14) (fun μ15 => b12_reckons_8 N n (nI r) (nI j) (nI (i + 1)) μ15)) else bd (p12_pop N (mR μ t h)) (fun r9 μ9 => bd (p12_pop N μ9) (fun r10 μ10 => bo (p12_sumOfTwo N (nI (s % 16)) r10 r9) (fun r11 => bo (p12_push N r11 μ10) (fun μ12 => b12_reckons_8 N n (nI r) (nI j) (nI (i + 1)) μ12))))) := by
  rw [b12_reckons_8, if_neg (nI_ge hi (by omega))]
  rw [show (400 : Int32) = nI 400 from rfl, pk_mul, nI_add]
  simp only [lt_s9, inbT (show 400 * r + i < 2400 by omega) (by decide), clN (show 400 * r + i < 2147483648 by omega), ck_1, mR_ga, mR_gl1, hg, sg_lo hs, sg_hi hs, nI_1]
theorem nI_ne {a b : Nat} (ha : a < 16) (hb : b < 16) (h : a ≠ b) : ¬ nI a = nI b := fun z => h ((nI_eq (by omega) (by omega)).mp z)
/-- what stands in the class's rule and in the reference's from i to j is reckoned alike -/
theorem rr_run (hA : Inj A) (hB : 300 ≤ B) (hw : isK κ (A 41) 21 = true) (hw2 : ln κ (A 41) = 12) (hr : sRu κ A B nc k) (hnc : nc ≤ 400) (hr6 : r < 6) (hg : ∀ i, i < nc → ai κ (A (B + 1)) i = cOf (g i) ∧ ga 1 μ (400 * r + i) = nI (g i)) (hwd : ∀ w, w < 12 → al κ (A 41) w = gl 1 μ w) {j : Nat} (hj : j ≤ nc) {tt : Bool} : ∀ (d i n m : Nat) (st : List Bool) (f h : Nat → Int64), i + d = j → d < n → d < m → tyRun g d i st = some [tt] → Sk st f h → st.length + nV g d i ≤ 60 → st.length ≤ i → ∃ (v : Int64) (f1 h1 : Nat → Int64), b_Rule_valueOf_6 N n (A B) (nI j) (A 41) (nI st.length) (nI i) (sal (A (B + 4)) f κ) = some (v, sal (A (B + 4)) f1 κ) ∧ b12_reckons_8 N m (nI r) (nI j) (nI i) (mR μ st.length h) = some (v, mR μ 0 h1) ∧ (tt = true → v = 0 ∨ v = 1) := by
  intro d
  induction d with
  | zero =>
    intro i n m st f h hi hn hm ht hk hl hli
    obtain ⟨n, rfl⟩ : ∃ q, n = q + 1 := ⟨n - 1, by omega⟩
    obtain ⟨m, rfl⟩ : ∃ q, m = q + 1 := ⟨m - 1, by omega⟩
    have e : i = j := by omega
    subst e
    have e2 : st = [tt] := by
      rw [tyRun] at ht
      exact Option.some.inj ht
    subst e2
    refine ⟨f 0, f, h, ?_, ?_, hk.2.1⟩
    · rw [b_Rule_valueOf_6, if_pos (nI_le (Nat.le_refl i) (by omega)), if_neg (show ¬ nI [tt].length < 1 from (by decide : ¬ nI 1 < 1))]
      simp only [isK_al, fr_al, ln_al, al_al, hr, ck_1, bo_s, lt_s9, List.length_cons, List.length_nil, sub1, inbT (show 0 < nc + 1 by omega) (show nc + 1 < 2147483648 by omega), clN (show 0 < 2147483648 by omega), if_true]
    · rw [b12_reckons_8, if_pos (nI_le (Nat.le_refl i) (by omega))]
      show bd (p12_pop N (mR μ (0 + 1) h)) _ = _
      rw [m_pop N μ h (by decide), bd_s]
      rw [show f 0 = h 0 from hk.1]
  | succ d ih =>
    intro i n m st f h hi hn hm ht hk hl hli
    obtain ⟨n, rfl⟩ : ∃ q, n = q + 1 := ⟨n - 1, by omega⟩
    obtain ⟨m, rfl⟩ : ∃ q, m = q + 1 := ⟨m - 1, by omega⟩
    have hin : i < nc := by omega
    obtain ⟨hc, hm1⟩ := hg i hin
    rw [tyRun] at ht
    rw [nV] at hl
    cases hts : tyStep (g i) st with
    | none => rw [hts] at ht; cases ht
    | some st1 =>
      rw [hts] at ht
      have ht1 : tyRun g d (i + 1) st1 = some [tt] := ht
      generalize hsg : g i = s at *
      unfold tyStep at hts
      by_cases h0 : s % 16 = 0
      · rw [if_pos h0] at hts
        by_cases h1 : s / 16 < 100000
        · rw [if_pos h1] at hts
          have e1 := Option.some.inj hts
          subst e1
          rw [if_pos (show s % 16 < 2 by omega)] at hl
          rw [cs_num hr (by omega) hj hnc hli hc h0 h1, ms_pre (by omega) (by omega) hr6 (by omega) hm1, if_pos (by rw [h0]; rfl), m_push N _ μ h (by omega), bo_s]
          exact ih (i + 1) n m (false :: st) _ _ (by omega) (by omega) (by omega) ht1 (Sk_push hk (fun z => by cases z)) (by simp only [List.length_cons]; omega) (by simp only [List.length_cons]; omega)
        · rw [if_neg h1] at hts; cases hts
      · rw [if_neg h0] at hts
        by_cases h1 : s % 16 = 1
        · rw [if_pos h1] at hts
          by_cases h2 : s / 16 < 12
          · rw [if_pos h2] at hts
            have e1 := Option.some.inj hts
            subst e1
            rw [if_pos (show s % 16 < 2 by omega)] at hl
            rw [cs_word hA hB hw hw2 hr (by omega) hj hnc hli hc h1 h2, ms_pre (by omega) (by omega) hr6 (by omega) hm1, if_neg (show ¬ nI (s % 16) = 0 from nI_ne (b := 0) (by omega) (by omega) h0), if_pos (by rw [h1]; rfl), ck_t (inb_nI h2 (by decide)), clN (by omega), m_push N _ μ h (by omega), bo_s, hwd _ h2]
            exact ih (i + 1) n m (false :: st) _ _ (by omega) (by omega) (by omega) ht1 (Sk_push hk (fun z => by cases z)) (by simp only [List.length_cons]; omega) (by simp only [List.length_cons]; omega)
          · rw [if_neg h2] at hts; cases hts
        · rw [if_neg h1] at hts
          rw [if_neg (show ¬ s % 16 < 2 by omega)] at hl
          by_cases h11 : s = 11
          · rw [if_pos h11] at hts
            subst h11
            match st, hts, hk, hl, hli with
            | [], hts, _, _, _ => cases hts
            | false :: t, hts, _, _, _ => cases hts
            | true :: t, hts, hk, hl, hli =>
              have e1 := Option.some.inj hts
              subst e1
              simp only [List.length_cons] at hl hli ⊢
              rw [cs_not hr (by omega) hj hnc hli hc, ms_pre (by omega) (by omega) hr6 (by omega) hm1, if_neg (show ¬ nI (11 % 16) = 0 by decide), if_neg (show ¬ nI (11 % 16) = 1 by decide), if_pos (show nI (11 % 16) = 11 by decide), m_pop N μ h (by omega), bd_s, m_push N _ μ h (by omega), bo_s]
              have hx := hk.2.1 rfl
              have e2 : (if f t.length = 0 then (1 : Int64) else 0) = 1 - h t.length := by
                rw [← hk.1]
                rcases hx with z | z <;> rw [z] <;> decide
              have e3 : (1 - h t.length = 0 ∨ 1 - h t.length = 1) := by
                rw [← hk.1]
                rcases hx with z | z <;> rw [z] <;> decide
              rw [e2]
              exact ih (i + 1) n m (true :: t) _ _ (by omega) (by omega) (by omega) ht1 (Sk_push hk.2.2 (fun _ => e3)) (by simp only [List.length_cons]; omega) (by simp only [List.length_cons]; omega)
          · rw [if_neg h11] at hts
            match st, hts, hk, hl, hli with
            | [], hts, _, _, _ => cases hts
            | [_], hts, _, _, _ => (rename_i q _ _ _; cases q <;> cases hts)
            | true :: false :: t, hts, _, _, _ => cases hts
            | false :: true :: t, hts, _, _, _ => cases hts
            | true :: true :: t, hts, hk, hl, hli =>
              have hts1 : (if s = 12 ∨ s = 13 then some (true :: t) else none) = some st1 := hts
              by_cases h3 : s = 12 ∨ s = 13
              · rw [if_pos h3] at hts1
                have e1 := Option.some.inj hts1
                subst e1
                simp only [List.length_cons] at hl hli ⊢
                have hs16 : s % 16 = s := by omega
                obtain ⟨k1, k2, k3, k4, k5⟩ := hk
                simp only [List.length_cons] at k1 k2
                have hv := jn_bool N s h3 (f t.length) (f (t.length + 1)) (k4 rfl) (k2 trivial)
                obtain ⟨v, hv1, hv2, hv3⟩ := hv κ
                rw [cs_bin hr (by omega) hj hnc hli hc (by omega) (fun κ' => by obtain ⟨v', q1, q2, -⟩ := hv κ'; rw [q1]; rw [q2] at hv2; rw [Option.some.inj hv2]), ms_pre (by omega) (by omega) hr6 (by omega) hm1, if_neg (show ¬ nI (s % 16) = 0 from nI_ne (b := 0) (by omega) (by omega) h0), if_neg (show ¬ nI (s % 16) = 1 from nI_ne (b := 1) (by omega) (by omega) h1), if_neg (show ¬ nI (s % 16) = 11 from nI_ne (b := 11) (by omega) (by omega) (by omega)), hs16, m_pop N μ h (by omega), bd_s, m_pop N μ h (by omega), bd_s, ← k1, ← k3, hv2, bo_s, m_push N _ μ h (by omega), bo_s]
                exact ih (i + 1) n m (true :: t) _ _ (by omega) (by omega) (by omega) ht1 (Sk_push k5 (fun _ => hv3)) (by simp only [List.length_cons]; omega) (by simp only [List.length_cons]; omega)
              · rw [if_neg h3] at hts1; cases hts1
            | false :: false :: t, hts, hk, hl, hli =>
              have hts1 : (if s = 2 ∨ s = 3 ∨ s = 4 ∨ s = 5 ∨ s = 14 then some (false :: t) else if s = 6 ∨ s = 7 ∨ s = 8 ∨ s = 9 ∨ s = 10 then some (true :: t) else none) = some st1 := hts
              simp only [List.length_cons] at hl hli ⊢
              obtain ⟨k1, k2, k3, k4, k5⟩ := hk
              simp only [List.length_cons] at k1 k2
              by_cases h3 : s = 2 ∨ s = 3 ∨ s = 4 ∨ s = 5 ∨ s = 14
              · rw [if_pos h3] at hts1
                have e1 := Option.some.inj hts1
                subst e1
                have hs16 : s % 16 = s := by omega
                have hv := jn_arith N s h3 (f t.length) (f (t.length + 1))
                obtain ⟨v, hv1, hv2⟩ := hv κ
                rw [cs_bin hr (by omega) hj hnc hli hc (by omega) (fun κ' => by obtain ⟨v', q1, q2⟩ := hv κ'; rw [q1]; rw [q2] at hv2; rw [Option.some.inj hv2]), ms_pre (by omega) (by omega) hr6 (by omega) hm1, if_neg (show ¬ nI (s % 16) = 0 from nI_ne (b := 0) (by omega) (by omega) h0), if_neg (show ¬ nI (s % 16) = 1 from nI_ne (b := 1) (by omega) (by omega) h1), if_neg (show ¬ nI (s % 16) = 11 from nI_ne (b := 11) (by omega) (by omega) (by omega)), hs16, m_pop N μ h (by omega), bd_s, m_pop N μ h (by omega), bd_s, ← k1, ← k3, hv2, bo_s, m_push N _ μ h (by omega), bo_s]
                exact ih (i + 1) n m (false :: t) _ _ (by omega) (by omega) (by omega) ht1 (Sk_push k5 (fun z => by cases z)) (by simp only [List.length_cons]; omega) (by simp only [List.length_cons]; omega)
              · rw [if_neg h3] at hts1
                by_cases h4 : s = 6 ∨ s = 7 ∨ s = 8 ∨ s = 9 ∨ s = 10
                · rw [if_pos h4] at hts1
                  have e1 := Option.some.inj hts1
                  subst e1
                  have hs16 : s % 16 = s := by omega
                  have hv := jn_cmp N s h4 (f t.length) (f (t.length + 1))
                  obtain ⟨v, hv1, hv2, hv3⟩ := hv κ
                  rw [cs_bin hr (by omega) hj hnc hli hc (by omega) (fun κ' => by obtain ⟨v', q1, q2, -⟩ := hv κ'; rw [q1]; rw [q2] at hv2; rw [Option.some.inj hv2]), ms_pre (by omega) (by omega) hr6 (by omega) hm1, if_neg (show ¬ nI (s % 16) = 0 from nI_ne (b := 0) (by omega) (by omega) h0), if_neg (show ¬ nI (s % 16) = 1 from nI_ne (b := 1) (by omega) (by omega) h1), if_neg (show ¬ nI (s % 16) = 11 from nI_ne (b := 11) (by omega) (by omega) (by omega)), hs16, m_pop N μ h (by omega), bd_s, m_pop N μ h (by omega), bd_s, ← k1, ← k3, hv2, bo_s, m_push N _ μ h (by omega), bo_s]
                  exact ih (i + 1) n m (true :: t) _ _ (by omega) (by omega) (by omega) ht1 (Sk_push k5 (fun _ => hv3)) (by simp only [List.length_cons]; omega) (by simp only [List.length_cons]; omega)
                · rw [if_neg h4] at hts1; cases hts1
end RuleRun
