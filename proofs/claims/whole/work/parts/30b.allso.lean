/-! the reference's run over all notes -/
theorem m_keep39 (N : Nat) (hN : 20000 ≤ N) {c r n : Nat} (hc : c ≤ 10) (hr : r < 7) (hn : n ≤ 60) (th x3 : Int32) (k5 : Int32 → Int32 → Int32 → Int32 → Mz → Option (Int32 × Mz)) : ∀ (f i : Nat), i ≤ c → c < f + i → ∀ (μ : Mz), ga 7 μ 3 = nI c → ∃ F : Nat → Int32, b12_areAllSo_39 N k5 f (nI r) th x3 (nI n) (nI i) μ = k5 (nI r) th x3 (nI (n + 1)) (sa 16 F μ) ∧ (nI n = th → ∀ k, i ≤ k → k < c → F (10 * r + k) = ga 7 μ (13 + k)) ∧ (∀ j, (∀ k, k < c → j ≠ 10 * r + k) → F j = ga 16 μ j) ∧ (nI n = th → ∀ k, k < i → F (10 * r + k) = ga 16 μ (10 * r + k)) ∧ (nI n ≠ th → F = ga 16 μ) := by
  refine upL c (fun f i => ∀ (μ : Mz), ga 7 μ 3 = nI c → ∃ F : Nat → Int32, b12_areAllSo_39 N k5 f (nI r) th x3 (nI n) (nI i) μ = k5 (nI r) th x3 (nI (n + 1)) (sa 16 F μ) ∧ (nI n = th → ∀ k, i ≤ k → k < c → F (10 * r + k) = ga 7 μ (13 + k)) ∧ (∀ j, (∀ k, k < c → j ≠ 10 * r + k) → F j = ga 16 μ j) ∧ (nI n = th → ∀ k, k < i → F (10 * r + k) = ga 16 μ (10 * r + k)) ∧ (nI n ≠ th → F = ga 16 μ)) ?_ ?_
  · intro f μ h3
    refine ⟨ga 16 μ, ?_, fun _ k h1 h2 => absurd h1 (by omega), fun j _ => rfl, fun _ k _ => rfl, fun _ => rfl⟩
    rw [b12_areAllSo_39, show ga 7 μ (3 : Int32).toNatClampNeg = nI c from h3, if_pos (nI_le (Nat.le_refl c) (by omega)), lt_s9, nI_1, sa_ga]
  · intro f i hi ih μ h3
    rw [b12_areAllSo_39, show ga 7 μ (3 : Int32).toNatClampNeg = nI c from h3, if_neg (nI_ge hi (by omega))]
    by_cases hz : nI n = th
    · have er : (10 : Int32) * nI r + nI i = nI (10 * r + i) := by rw [show (10 : Int32) = nI 10 from rfl, pk_mul, nI_add]
      have e13 : (13 : Int32) + nI i = nI (13 + i) := nI_add 13 i
      obtain ⟨F, f1, f2, f3, f4, f5⟩ := ih (sa 16 (upd (ga 16 μ) (10 * r + i) (ga 7 μ (13 + i))) μ) (by rw [ga_sa_ne (by decide)]; exact h3)
      rw [sa_sa] at f1
      rw [if_pos hz, er, e13]
      simp -implicitDefEqProofs only [lt_s9, ck_1, inbT (show 10 * r + i < 70 by omega) (by decide), clN (show 10 * r + i < 2147483648 by omega), inbT (show 13 + i < 129 by omega) (by decide), clN (show 13 + i < 2147483648 by omega), nI_1]
      refine ⟨F, f1, fun _ k h1 h2 => ?_, fun j hj => ?_, fun _ k hk => ?_, fun z => absurd hz z⟩
      · by_cases y : k = i
        · rw [y, f4 hz i (by omega), ga_sa, upd_at, if_pos rfl]
        · rw [f2 hz k (by omega) h2, ga_sa_ne (by decide)]
      · rw [f3 j hj, ga_sa, upd_at, if_neg (hj i hi)]
      · rw [f4 hz k (by omega), ga_sa, upd_at, if_neg (by omega)]
    · rw [if_neg hz, lt_s9, nI_1]
      exact ⟨ga 16 μ, by rw [sa_ga], fun z => absurd z hz, fun j _ => rfl, fun z => absurd z hz, fun _ => rfl⟩
theorem m_areAllSo (N : Nat) (hN : 20000 ≤ N) {A : Nat → Nat} {S : Nat → Int32} {c h e nn r : Nat} (he : e ≤ 999) (hnn : nn ≤ 10) (hV : ∀ i, i < nn → NtV S c i) (hr : r < 7) (th : Int32) : ∀ (f i : Nat), i ≤ 61 → 61 < f + i → ∀ (κ : Cz) (μ : Mz) (is : Bool), TR A κ μ c h (e + i) → ga 7 μ 128 = nI nn → (∀ j, 98 ≤ j → j < 128 → ga 7 μ j = S j) → ∃ (b : Bool) (μ1 : Mz), (b = true ↔ is = true ∧ ∀ n, i ≤ n → n ≤ 60 → soK S A nn n (Kit N A (n - i + 1) κ)) ∧ b12_areAllSo_5 N f (nI r) th (if is = true then 1 else 0) (nI i) μ = some (if b = true then 1 else 0, μ1) ∧ Mq μ μ1 ∧ Sb (ga 7 μ) (ga 7 μ1) ∧ ga 9 μ1 = ga 9 μ ∧ ga 15 μ1 = ga 15 μ ∧ (∀ j, (∀ k, k < c → j ≠ 10 * r + k) → ga 16 μ1 j = ga 16 μ j) ∧ ((∀ n, i ≤ n → n ≤ 60 → nI n ≠ th) → ga 16 μ1 = ga 16 μ) ∧ ∀ t, nI t = th → i ≤ t → t ≤ 60 → ∀ k, k < c → ga 16 μ1 (10 * r + k) = ai (Kit N A (t - i + 1) κ) (A 67) k := by
  refine upL 61 (fun f i => ∀ (κ : Cz) (μ : Mz) (is : Bool), TR A κ μ c h (e + i) → ga 7 μ 128 = nI nn → (∀ j, 98 ≤ j → j < 128 → ga 7 μ j = S j) → ∃ (b : Bool) (μ1 : Mz), (b = true ↔ is = true ∧ ∀ n, i ≤ n → n ≤ 60 → soK S A nn n (Kit N A (n - i + 1) κ)) ∧ b12_areAllSo_5 N f (nI r) th (if is = true then 1 else 0) (nI i) μ = some (if b = true then 1 else 0, μ1) ∧ Mq μ μ1 ∧ Sb (ga 7 μ) (ga 7 μ1) ∧ ga 9 μ1 = ga 9 μ ∧ ga 15 μ1 = ga 15 μ ∧ (∀ j, (∀ k, k < c → j ≠ 10 * r + k) → ga 16 μ1 j = ga 16 μ j) ∧ ((∀ n, i ≤ n → n ≤ 60 → nI n ≠ th) → ga 16 μ1 = ga 16 μ) ∧ ∀ t, nI t = th → i ≤ t → t ≤ 60 → ∀ k, k < c → ga 16 μ1 (10 * r + k) = ai (Kit N A (t - i + 1) κ) (A 67) k) ?_ ?_
  · intro f κ μ is hT h128 h98
    refine ⟨is, μ, ⟨fun z => ⟨z, fun n h1 h2 => absurd h1 (by omega)⟩, fun z => z.1⟩, ?_, Mq.refl _, Sb.refl _, rfl, rfl, fun _ _ => rfl, fun _ => rfl, fun t _ h1 h2 => absurd h1 (by omega)⟩
    rw [b12_areAllSo_5, if_pos (show (60 : Int32) < nI 61 from nI_lt (a := 60) (b := 61) (by omega) (by omega))]
    cases is <;> rfl
  · intro f i hi ih κ μ is hT h128 h98
    have hc : c ≤ 10 := hT.2.2.2.1.2.2.1
    obtain ⟨m, κ1, μ1, p1, p2, hT1, g1, mc1, sb1, -⟩ := tr_pass N (by omega) hT (by omega)
    have h128' : ga 7 μ1 128 = nI nn := (sb1 128 (by omega)).trans h128
    have h98' : ∀ j, 98 ≤ j → j < 128 → ga 7 μ1 j = S j := fun j z1 z2 => (sb1 j (by omega)).trans (h98 j z1 z2)
    have h3' : ga 7 μ1 3 = nI c := hT1.2.2.2.1.2.1
    obtain ⟨b, b1, b2⟩ := m_notesSo N hN hc hnn h128' h98' hT1.2.2.1 hV i
    have ek : stepK N A κ = κ1 := stepK_s p1
    have eK : ∀ n, i < n → Kit N A (n - i + 1) κ = Kit N A (n - (i + 1) + 1) κ1 := by
      intro n hn
      rw [show n - i + 1 = (n - (i + 1) + 1) + 1 by omega]
      show Kit N A (n - (i + 1) + 1) (stepK N A κ) = _
      rw [ek]
    have e0 : Kit N A (i - i + 1) κ = κ1 := by
      rw [Nat.sub_self]
      exact ek
    have n60 : ¬ (60 : Int32) < nI i := nI_nlt (a := 60) (by omega) (by omega)
    -- the rest, by what is so up to here
    have rest : ∀ is2 : Bool, ∃ (b' : Bool) (μ3 : Mz), (b' = true ↔ is2 = true ∧ ∀ n, i + 1 ≤ n → n ≤ 60 → soK S A nn n (Kit N A (n - i + 1) κ)) ∧ b12_areAllSo_39 N (b12_areAllSo_5 N f) N (nI r) th (if is2 = true then 1 else 0) (nI i) 0 μ1 = some (if b' = true then 1 else 0, μ3) ∧ Mq μ1 μ3 ∧ Sb (ga 7 μ1) (ga 7 μ3) ∧ ga 9 μ3 = ga 9 μ1 ∧ ga 15 μ3 = ga 15 μ1 ∧ (∀ j, (∀ k, k < c → j ≠ 10 * r + k) → ga 16 μ3 j = ga 16 μ1 j) ∧ ((∀ n, i ≤ n → n ≤ 60 → nI n ≠ th) → ga 16 μ3 = ga 16 μ1) ∧ ∀ t, nI t = th → i ≤ t → t ≤ 60 → ∀ k, k < c → ga 16 μ3 (10 * r + k) = ai (Kit N A (t - i + 1) κ) (A 67) k := by
      intro is2
      obtain ⟨F, f1, f2, f3, f4, f5⟩ := m_keep39 N hN hc hr (show i ≤ 60 by omega) th (if is2 = true then 1 else 0) (b12_areAllSo_5 N f) N 0 (by omega) (by omega) μ1 h3'
      rw [nI_0] at f1
      have h7F : ga 7 (sa 16 F μ1) = ga 7 μ1 := ga_sa_ne (by decide) _ _
      have mF : Mq μ1 (sa 16 F μ1) := Mq.row (by unfold Rq; omega) _
      have hT2 : TR A κ1 (sa 16 F μ1) c h (e + i + 1) := hT1.fram (Chg.refl _ _ _) mF h7F
      obtain ⟨b', μ3, q1, q2, q3, q4, q5, q6, q7, q8, q9⟩ := ih κ1 (sa 16 F μ1) is2 hT2 (by rw [h7F]; exact h128') (by rw [h7F]; exact h98')
      rw [h7F] at q4
      rw [ga_sa_ne (show 9 ≠ 16 by decide)] at q5
      rw [ga_sa_ne (show 15 ≠ 16 by decide)] at q6
      rw [ga_sa] at q7 q8
      refine ⟨b', μ3, q1.trans ⟨fun z => ⟨z.1, fun n h1 h2 => by rw [eK n (by omega)]; exact z.2 n h1 h2⟩, fun z => ⟨z.1, fun n h1 h2 => by rw [← eK n (by omega)]; exact z.2 n h1 h2⟩⟩, by rw [f1]; exact q2, mF.trans q3, q4, q5, q6, fun j hj => (q7 j hj).trans (f3 j hj), fun z => (q8 (fun n h1 h2 => z n (by omega) h2)).trans (f5 (z i (Nat.le_refl i) (by omega))), fun t ht h1 h2 k hk => ?_⟩
      by_cases y : t = i
      · subst y
        have hnt : ∀ n, t + 1 ≤ n → n ≤ 60 → nI n ≠ th := fun n z1 z2 z3 => by
          have := (nI_eq (by omega) (by omega)).mp (z3.trans ht.symm)
          omega
        rw [q8 hnt, f2 ht k (by omega) hk, e0]
        exact (hT1.2.2.1.2.2.2.1 k (by omega)).symm
      · rw [eK t (by omega)]
        exact q9 t ht (by omega) h2 k hk
    have e9 : ga 9 μ1 = ga 9 μ := mc1.2.1 9 (by unfold Rp; omega)
    have e15 : ga 15 μ1 = ga 15 μ := mc1.2.1 15 (by unfold Rp; omega)
    have e16 : ga 16 μ1 = ga 16 μ := mc1.2.1 16 (by unfold Rp; omega)
    rw [b12_areAllSo_5, if_neg n60, p2, bd_s, b2, bd_s, ite10]
    have fin : ∀ is2 : Bool, (is2 = true ↔ is = true ∧ b = true) → ∃ (b' : Bool) (μ3 : Mz), (b' = true ↔ is = true ∧ ∀ n, i ≤ n → n ≤ 60 → soK S A nn n (Kit N A (n - i + 1) κ)) ∧ b12_areAllSo_39 N (b12_areAllSo_5 N f) N (nI r) th (if is2 = true then 1 else 0) (nI i) 0 μ1 = some (if b' = true then 1 else 0, μ3) ∧ Mq μ μ3 ∧ Sb (ga 7 μ) (ga 7 μ3) ∧ ga 9 μ3 = ga 9 μ ∧ ga 15 μ3 = ga 15 μ ∧ (∀ j, (∀ k, k < c → j ≠ 10 * r + k) → ga 16 μ3 j = ga 16 μ j) ∧ ((∀ n, i ≤ n → n ≤ 60 → nI n ≠ th) → ga 16 μ3 = ga 16 μ) ∧ ∀ t, nI t = th → i ≤ t → t ≤ 60 → ∀ k, k < c → ga 16 μ3 (10 * r + k) = ai (Kit N A (t - i + 1) κ) (A 67) k := by
      intro is2 h2
      obtain ⟨b', μ3, q1, q2, q3, q4, q5, q6, q7, q8, q9⟩ := rest is2
      refine ⟨b', μ3, q1.trans ⟨fun z => ⟨(h2.mp z.1).1, fun n h1 h4 => ?_⟩, fun z => ⟨h2.mpr ⟨z.1, ?_⟩, fun n h1 h4 => z.2 n (by omega) h4⟩⟩, q2, mc1.mq.trans q3, sb1.trans q4, q5.trans e9, q6.trans e15, fun j hj => (q7 j hj).trans (by rw [e16]), fun z => (q8 z).trans e16, q9⟩
      · by_cases y : n = i
        · subst y; rw [e0]; exact b1.mp (h2.mp z.1).2
        · exact z.2 n (by omega) h4
      · have := z.2 i (Nat.le_refl i) (by omega)
        rw [e0] at this
        exact b1.mpr this
    cases is with
    | false =>
      rw [if_neg (show ¬ false = true by decide)]
      exact fin false ⟨fun z => (nomatch z), fun z => z.1⟩
    | true =>
      rw [if_pos (show true = true from rfl), ite10]
      cases b with
      | false =>
        rw [if_neg (show ¬ false = true by decide)]
        exact fin false ⟨fun z => (nomatch z), fun z => z.2⟩
      | true =>
        rw [if_pos (show true = true from rfl)]
        exact fin true ⟨fun _ => ⟨rfl, rfl⟩, fun _ => rfl⟩
