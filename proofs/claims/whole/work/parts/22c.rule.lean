/-! a rule in the class and in the reference; its sum for the words as they are told -/
theorem sal_eta (a : Nat) (κ : Cz) : sal a (al κ a) κ = κ := by
  obtain ⟨k1, k2, k3, k4, k5, k6, k7, k8⟩ := κ
  simp only [sal, al]
  congr 7
  funext j
  by_cases h : j = a <;> simp [va_up, h]
theorem sl_gl (k : Nat) (μ : Mz) : sl k (gl k μ) μ = μ := by
  obtain ⟨a, b, c, d⟩ := μ
  simp only [sl, gl]
  congr 3
  funext j
  by_cases h : j = k <;> simp [va_up, h]
theorem si_gi (k : Nat) (μ : Mz) : si k (gi k μ) μ = μ := by
  obtain ⟨a, b⟩ := μ
  simp only [si, gi]
  congr 1
  funext j
  by_cases h : j = k <;> simp [upd, h]
theorem mR_mR (μ : Mz) (t t1 : Nat) (h h1 : Nat → Int64) : mR (mR μ t h) t1 h1 = mR μ t1 h1 := mR_set μ t t1 h h1
/-- rule r of the class and of the reference -/
def RuC (κ : Cz) (A : Nat → Nat) (μ : Mz) (r : Nat) : Prop := ∃ (nc k : Nat) (g s en : Nat → Nat), sRu κ A (300 + 5 * r) nc k ∧ nc ≤ 400 ∧ k ≤ 12 ∧ ga 4 μ r = nI k ∧ (∀ i, i < nc → ai κ (A (300 + 5 * r + 1)) i = cOf (g i) ∧ ga 1 μ (400 * r + i) = nI (g i)) ∧ en 0 = 0 ∧ nV g nc 0 ≤ 60 ∧ ∀ c, c < k → ai κ (A (300 + 5 * r + 2)) c = nI (s c) ∧ ai κ (A (300 + 5 * r + 3)) c = nI (en (c + 1)) ∧ ga 3 μ (48 * r + 4 * c) = nI (en c) ∧ ga 3 μ (48 * r + 4 * c + 1) = nI (s c) ∧ ga 3 μ (48 * r + 4 * c + 2) = (if s c = en (c + 1) then -1 else nI (s c)) ∧ ga 3 μ (48 * r + 4 * c + 3) = nI (en (c + 1)) ∧ en c ≤ s c ∧ s c ≤ en (c + 1) ∧ en (c + 1) ≤ nc ∧ tyRun g (s c - en c) (en c) [] = some [false] ∧ (s c < en (c + 1) → tyRun g (en (c + 1) - s c) (s c) [] = some [true])
theorem nV_add (g : Nat → Nat) : ∀ (a b i : Nat), nV g (a + b) i = nV g a i + nV g b (i + a)
  | 0, b, i => by simp [nV]
  | a + 1, b, i => by
    rw [show a + 1 + b = (a + b) + 1 by omega, nV, nV, nV_add g a b (i + 1), show i + 1 + a = i + (a + 1) by omega]
    omega
theorem nV_sub (g : Nat → Nat) {nc d i : Nat} (h : i + d ≤ nc) : nV g d i ≤ nV g nc 0 := by
  have h1 := nV_add g i (d + (nc - (i + d))) 0
  have h2 := nV_add g d (nc - (i + d)) i
  rw [show i + (d + (nc - (i + d))) = nc by omega] at h1
  rw [Nat.zero_add] at h1
  omega
section RuleSum
variable {N : Nat} {A : Nat → Nat} {κ : Cz} {μ : Mz} {r nc k : Nat} {g s en : Nat → Nat}
theorem rr_val (hN : 401 ≤ N) (hA : Inj A) (hw : isK κ (A 41) 21 = true) (hw2 : ln κ (A 41) = 12) (hr : sRu κ A (300 + 5 * r) nc k) (hnc : nc ≤ 400) (hr6 : r < 6) (hg : ∀ i, i < nc → ai κ (A (300 + 5 * r + 1)) i = cOf (g i) ∧ ga 1 μ (400 * r + i) = nI (g i)) (hv : nV g nc 0 ≤ 60) (hwd : ∀ w, w < 12 → al κ (A 41) w = gl 1 μ w) {i j : Nat} (hij : i ≤ j) (hj : j ≤ nc) {tt : Bool} (ht : tyRun g (j - i) i [] = some [tt]) (f : Nat → Int64) (t : Nat) (h : Nat → Int64) : ∃ (v : Int64) (f1 h1 : Nat → Int64), p_Rule_valueOf N (A (300 + 5 * r)) (nI i) (nI j) (A 41) (sal (A (300 + 5 * r + 4)) f κ) = some (v, sal (A (300 + 5 * r + 4)) f1 κ) ∧ p12_reckons N (nI r) (nI i) (nI j) (mR μ t h) = some (v, mR μ 0 h1) ∧ (tt = true → v = 0 ∨ v = 1) := by
  have e : si 10 0 (mR μ t h) = mR μ 0 h := by
    show si 10 (nI 0) (si 10 (nI t) (sl 0 h μ)) = _
    rw [si_si]; rfl
  unfold p_Rule_valueOf p12_reckons
  rw [lt_s9, e]
  exact rr_run hA (by omega) hw hw2 hr hnc hr6 hg hwd hj (j - i) i N N [] f h (by omega) (by omega) (by omega) ht trivial (by have := nV_sub g (show i + (j - i) ≤ nc by omega); simp only [List.length_nil]; omega) (by simp)
theorem rr_sum (hN : 401 ≤ N) (hA : Inj A) (hw : isK κ (A 41) 21 = true) (hw2 : ln κ (A 41) = 12) (hr : sRu κ A (300 + 5 * r) nc k) (hnc : nc ≤ 400) (hk12 : k ≤ 12) (hr6 : r < 6) (hck : ga 4 μ r = nI k) (hg : ∀ i, i < nc → ai κ (A (300 + 5 * r + 1)) i = cOf (g i) ∧ ga 1 μ (400 * r + i) = nI (g i)) (hv : nV g nc 0 ≤ 60) (hwd : ∀ w, w < 12 → al κ (A 41) w = gl 1 μ w) (hcl : ∀ c, c < k → ai κ (A (300 + 5 * r + 2)) c = nI (s c) ∧ ai κ (A (300 + 5 * r + 3)) c = nI (en (c + 1)) ∧ ga 3 μ (48 * r + 4 * c) = nI (en c) ∧ ga 3 μ (48 * r + 4 * c + 1) = nI (s c) ∧ ga 3 μ (48 * r + 4 * c + 2) = (if s c = en (c + 1) then -1 else nI (s c)) ∧ ga 3 μ (48 * r + 4 * c + 3) = nI (en (c + 1)) ∧ en c ≤ s c ∧ s c ≤ en (c + 1) ∧ en (c + 1) ≤ nc ∧ tyRun g (s c - en c) (en c) [] = some [false] ∧ (s c < en (c + 1) → tyRun g (en (c + 1) - s c) (s c) [] = some [true])) : ∀ (d c n m : Nat) (f : Nat → Int64) (t : Nat) (h : Nat → Int64), c + d = k → d < n → d < m → ∃ (v : Int64) (f1 : Nat → Int64) (t1 : Nat) (h1 : Nat → Int64), b_Rule_sumFor_4 N n (A (300 + 5 * r)) (A 41) (nI (en c)) (nI c) (sal (A (300 + 5 * r + 4)) f κ) = some (v, sal (A (300 + 5 * r + 4)) f1 κ) ∧ b12_summedBy_2 N m (nI r) (nI c) (mR μ t h) = some (v, mR μ t1 h1) := by
  intro d
  induction d with
  | zero =>
    intro c n m f t h hc hn hm
    obtain ⟨n, rfl⟩ : ∃ q, n = q + 1 := ⟨n - 1, by omega⟩
    obtain ⟨m, rfl⟩ : ∃ q, m = q + 1 := ⟨m - 1, by omega⟩
    have e : c = k := by omega
    subst e
    refine ⟨0, f, t, h, ?_, ?_⟩
    · rw [b_Rule_sumFor_4]
      simp -implicitDefEqProofs only [isK_al, fr_al, ln_al, hr, ck_1, bo_s]
      rw [if_pos (nI_le (Nat.le_refl c) (by omega))]
    · rw [b12_summedBy_2, ck_t (inb_nI hr6 (by decide)), clN (by omega), mR_ga, hck, if_pos (nI_le (Nat.le_refl c) (by omega))]
  | succ d ih =>
    intro c n m f t h hc hn hm
    obtain ⟨n, rfl⟩ : ∃ q, n = q + 1 := ⟨n - 1, by omega⟩
    obtain ⟨m, rfl⟩ : ∃ q, m = q + 1 := ⟨m - 1, by omega⟩
    have hck2 : c < k := by omega
    obtain ⟨a1, a2, a3, a4, a5, a6, a7, a8, a9, a10, a11⟩ := hcl c hck2
    -- the sum of this clause, from any two stacks
    have hsum : ∀ (f : Nat → Int64) (t : Nat) (h : Nat → Int64), ∃ (v : Int64) (f1 : Nat → Int64) (t1 : Nat) (h1 : Nat → Int64), b_Rule_sumFor_62 N (A (300 + 5 * r)) (A 41) (nI (en c)) (nI c) (sal (A (300 + 5 * r + 4)) f κ) = some (v, sal (A (300 + 5 * r + 4)) f1 κ) ∧ b12_summedBy_58 N (nI r) (nI (48 * r + 4 * c)) (mR μ t h) = some (v, mR μ t1 h1) := by
      intro f t h
      obtain ⟨v, f1, h1, e1, e2, -⟩ := rr_val hN hA hw hw2 hr hnc hr6 hg hv hwd a7 (by omega) a10 f t h
      refine ⟨v, f1, 0, h1, ?_, ?_⟩
      · unfold b_Rule_sumFor_62
        simp -implicitDefEqProofs only [isK_al, fr_al, ln_al, ai_al, hr, ck_1, bo_s, inbT hck2 (show k < 2147483648 by omega), clN (show c < 2147483648 by omega), a1, e1, bd_s]
      · unfold b12_summedBy_58
        simp only [nI_1, lt_s9, inbT (show 48 * r + 4 * c < 288 by omega) (by decide), inbT (show 48 * r + 4 * c + 1 < 288 by omega) (by decide), ck_1, mR_ga, clN (show 48 * r + 4 * c < 2147483648 by omega), clN (show 48 * r + 4 * c + 1 < 2147483648 by omega), a3, a4, e2, bd_s]
    rw [b_Rule_sumFor_4, b12_summedBy_2, ck_t (inb_nI hr6 (by decide)), clN (show r < 2147483648 by omega), mR_ga, hck, if_neg (nI_ge hck2 (by omega))]
    simp -implicitDefEqProofs only [isK_al, fr_al, ln_al, ai_al, hr, ck_1, bo_s, inbT hck2 (show k < 2147483648 by omega), clN (show c < 2147483648 by omega), a1, a2]
    rw [if_neg (nI_ge hck2 (by omega))]
    rw [show (48 : Int32) = nI 48 from rfl, show (4 : Int32) = nI 4 from rfl, pk_mul, pk_mul, nI_add]
    simp only [lt_s9]
    rw [show (2 : Int32) = nI 2 from rfl, show (3 : Int32) = nI 3 from rfl, nI_add, nI_add]
    simp only [inbT (show 48 * r + 4 * c + 2 < 288 by omega) (by decide), inbT (show 48 * r + 4 * c + 3 < 288 by omega) (by decide), ck_1, mR_ga, clN (show 48 * r + 4 * c + 2 < 2147483648 by omega), clN (show 48 * r + 4 * c + 3 < 2147483648 by omega), a5, a6]
    by_cases hz : s c = en (c + 1)
    · rw [if_pos (nI_le (by omega) (by omega)), if_pos hz, if_pos (by decide)]
      unfold b_Rule_sumFor_33
      rw [if_pos rfl]
      exact hsum f t h
    · rw [if_neg (nI_ge (by omega) (by omega)), if_neg hz, if_neg (nI_pos (by omega))]
      unfold b_Rule_sumFor_33
      rw [if_neg (by decide)]
      obtain ⟨v, f1, h1, e1, e2, e3⟩ := rr_val hN hA hw hw2 hr hnc hr6 hg hv hwd a8 a9 (a11 (by omega)) f t h
      simp -implicitDefEqProofs only [isK_al, fr_al, ln_al, ai_al, hr, ck_1, bo_s, inbT hck2 (show k < 2147483648 by omega), clN (show c < 2147483648 by omega), a1, a2, e1, e2, bd_s, lt_s9, nI_1]
      rcases e3 rfl with z | z
      · subst z
        rw [if_pos (by decide), if_neg (by decide)]
        exact ih (c + 1) n m f1 0 h1 (by omega) (by omega) (by omega)
      · subst z
        rw [if_neg (by decide), if_pos (by decide)]
        exact hsum f1 0 h1
end RuleSum
/-- the sum of rule r: both alike; the class changes its stack, the reference its own -/
theorem rule_sum {N : Nat} (hN : 401 ≤ N) {A : Nat → Nat} {κ : Cz} {μ : Mz} {r : Nat} (hA : Inj A) (hp : sPr κ A) (hr6 : r < 6) (hR : RuC κ A μ r) (hwd : ∀ w, w < 12 → al κ (A 41) w = gl 1 μ w) : ∃ (v : Int64) (f1 : Nat → Int64) (t1 : Nat) (h1 : Nat → Int64), p_Rule_sumFor N (A (300 + 5 * r)) (A 41) κ = some (v, sal (A (300 + 5 * r + 4)) f1 κ) ∧ p12_summedBy N (nI r) μ = some (v, si 10 (nI t1) (sl 0 h1 μ)) := by
  obtain ⟨nc, k, g, s, en, hr, hnc, hk, hck, hg, h0, hv, hcl⟩ := hR
  obtain ⟨t, ht⟩ : ∃ t : Nat, gi 10 μ = nI t := ⟨(gi 10 μ).toBitVec.toNat, Int32.toBitVec_inj.mp (by show _ = BitVec.ofNat 32 _; simp)⟩
  have e1 : mR μ t (gl 0 μ) = μ := by
    rw [mR, sl_gl, ← ht]
    exact si_gi 10 μ
  have h3 := rr_sum hN hA hp.2.2.2.1 hp.2.2.2.2 hr hnc hk hr6 hck hg hv hwd hcl k 0 N N (al κ (A (300 + 5 * r + 4))) t (gl 0 μ) (by omega) (by omega) (by omega)
  rw [sal_eta, e1, h0, nI_0] at h3
  exact h3
