/-! image -/
def imF (S W : Nat → Int32) (k i q : Nat) : Int32 := if 129 * k ≤ q ∧ q < 129 * k + i then S (q - 129 * k) else W q
theorem imF_s (S W : Nat → Int32) (k i : Nat) : upd (imF S W k i) (129 * k + i) (S i) = imF S W k (i + 1) := by
  funext q
  rw [upd_at]
  unfold imF
  by_cases h : q = 129 * k + i
  · rw [if_pos h, if_pos (by omega), h, Nat.add_sub_cancel_left]
  · rw [if_neg h]
    by_cases h2 : 129 * k ≤ q ∧ q < 129 * k + i
    · rw [if_pos h2, if_pos (by omega)]
    · rw [if_neg h2, if_neg (by omega)]
theorem m_image43 (N : Nat) (hN : 20000 ≤ N) (μ : Mz) {k : Nat} (hk : k < 4) : b12_image_43 N N (nI k) 0 μ = some (ga 7 μ 10, sa 17 (imF (ga 7 μ) (ga 17 μ) k 129) μ) := by
  have L := upL 129 (fun f i => b12_image_43 N f (nI k) (nI i) (sa 17 (imF (ga 7 μ) (ga 17 μ) k i) μ) = some (ga 7 μ 10, sa 17 (imF (ga 7 μ) (ga 17 μ) k 129) μ)) (by
    intro f
    rw [b12_image_43, if_pos (show (129 : Int32) ≤ nI 129 from nI_le (a := 129) (b := 129) (by omega) (by omega)), ga_sa_ne (by decide)]
    rfl) (by
    intro f i hi ih
    have e1 : (129 : Int32) * nI k + nI i = nI (129 * k + i) := by rw [show (129 : Int32) = nI 129 from rfl, pk_mul, nI_add]
    rw [b12_image_43, if_neg (show ¬ (129 : Int32) ≤ nI i from nI_ge (b := 129) hi (by omega)), e1]
    simp only [lt_s9, ck_1, inbT hi (by decide), inbT (show 129 * k + i < 516 by omega) (by decide), clN (show i < 2147483648 by omega), clN (show 129 * k + i < 2147483648 by omega), ga_sa, ga_sa_ne (show 7 ≠ 17 by decide), sa_sa, imF_s, nI_1]
    exact ih) N 0 (by omega) (by omega)
  have e : sa 17 (imF (ga 7 μ) (ga 17 μ) k 0) μ = μ := by
    have : imF (ga 7 μ) (ga 17 μ) k 0 = ga 17 μ := by
      funext j
      unfold imF
      rw [if_neg (by omega)]
    rw [this, sa_ga]
  rw [e, nI_0] at L
  exact L
def imM (k : Nat) (μ : Mz) : Mz := sa 17 (imF (ga 7 μ) (ga 17 μ) k 129) (sa 19 (upd (ga 19 μ) k (gi 12 μ)) (sa 18 (upd (ga 18 μ) k (gi 11 μ)) (sa 20 (upd (ga 20 μ) k 1) μ)))
theorem m_image (N : Nat) (hN : 20000 ≤ N) (μ : Mz) {k : Nat} (hk : k < 4) (hw : 0 ≤ nI k ∧ nI k ≤ 3) : p12_image N (nI k) μ = some (ga 7 μ 10, imM k μ) := by
  unfold p12_image
  rw [m_in N (nI k) 0 3 0 3 (by decide) (by decide), bo_s, ite10, if_pos hw]
  simp only [inbT hk (by decide), ck_1, clN (show k < 2147483648 by omega), lt_s9, m_image43 N hN _ hk, gi_sa, ga_sa_ne (show 7 ≠ 19 by decide), ga_sa_ne (show 7 ≠ 18 by decide), ga_sa_ne (show 7 ≠ 20 by decide), ga_sa_ne (show 17 ≠ 19 by decide), ga_sa_ne (show 17 ≠ 18 by decide), ga_sa_ne (show 17 ≠ 20 by decide), ga_sa_ne (show 18 ≠ 20 by decide), ga_sa_ne (show 19 ≠ 18 by decide), ga_sa_ne (show 19 ≠ 20 by decide)]
  rfl
def ImI (κ : Cz) (A : Nat → Nat) (μ : Mz) (k : Nat) : Prop := (ga 20 μ k = 0 ∧ aq κ (A 37) k = none) ∨ (ga 20 μ k = 1 ∧ aq κ (A 37) k = some (A (200 + 17 * k)) ∧ Wd κ A (200 + 17 * k) (imS μ k) (ga 18 μ k) (ga 19 μ k) ∧ OkW (imS μ k) ∧ Fo (ga 18 μ k) (gi 1 μ) ∧ ∃ x, x < 2 ^ 31 ∧ ga 19 μ k = nI x)
/-- all but the k-th image -/
def RelK (k : Nat) (A : Nat → Nat) (κ : Cz) (μ : Mz) : Prop := Sh κ A ∧ Tp κ A μ ∧ Rl κ A μ ∧ Wd κ A 20 (ga 7 μ) (gi 11 μ) (gi 12 μ) ∧ OkW (ga 7 μ) ∧ Fo (gi 11 μ) (gi 1 μ) ∧ (∃ x, x < 2 ^ 31 ∧ gi 12 μ = nI x) ∧ Hy κ A μ ∧ (∀ j, j < 4 → j ≠ k → ImI κ A μ j) ∧ gi 13 μ = -1
theorem RelA.relK {A : Nat → Nat} {κ : Cz} {μ : Mz} (h : RelA A κ μ) (k : Nat) : RelK k A κ μ := ⟨h.1, h.2.1, h.2.2.1, h.2.2.2.1, h.2.2.2.2.1, h.2.2.2.2.2.1, h.2.2.2.2.2.2.1, h.2.2.2.2.2.2.2.1, fun j hj _ => h.2.2.2.2.2.2.2.2.1 j hj, h.2.2.2.2.2.2.2.2.2⟩
theorem sWd.nm {κ : Cz} {Q P : Nat → Nat} {b d : Nat} (s : sWd κ Q b) (e : ∀ i, i < 17 → P (d + i) = Q (b + i)) : sWd κ P d := by
  have e0 : P d = Q b := e 0 (by omega)
  obtain ⟨h1, h2, h3, h4, h5⟩ := s
  have t : ∀ o n, o + n ≤ 17 → ∀ i, i < n → P (d + o + i) = Q (b + o + i) := fun o n ho i hi => by rw [Nat.add_assoc, Nat.add_assoc]; exact e _ (by omega)
  refine ⟨?_, h2.nm (t 1 5 (by omega)), h3.nm (t 5 4 (by omega)), h4.nm (t 9 4 (by omega)), h5.nm (t 13 4 (by omega))⟩
  simp only [sWo, e0, e 1 (by omega), e 9 (by omega), e 13 (by omega)]
  exact h1
theorem im37 (N : Nat) (post : Int32 → Cz → Prop) (x0 x2 : Nat) (κ : Cz) : wb_ErrataRow_image_37 N post x0 x2 κ = wb_ErrataRow_image_37_1 N post x0 x2 κ := by
  unfold wb_ErrataRow_image_37 wb_ErrataRow_image_37_1
  rfl
theorem image_tail (N : Nat) {A : Nat → Nat} {κ : Cz} {μ : Mz} {k : Nat} (hk : k < 4) (hR : RelK k A κ μ) (ha : aq κ (A 37) k = some (A (200 + 17 * k))) {post : Int32 → Cz → Prop} (h : ∀ κ1, RelA A κ1 (imM k μ) → post (ga 7 μ 10) κ1) : wb_ErrataRow_image_37_1 N post (A 0) (A (200 + 17 * k)) κ := by
  obtain ⟨hs, tp, rl, wd, ok, fo, xx, hy, im, lf⟩ := hR
  have hA := hs.inj
  have sw : sWd κ A (200 + 17 * k) := by
    rcases hs.im k hk with z | z
    · rw [ha] at z; exact absurd z (fun z => (nomatch z))
    · exact z.2
  obtain ⟨κ1, e1, w1, g1⟩ := c_copyWd N hA sw hs.wd20 (by omega) wd ok.h01
  have hs1 := hs.chg g1
  have nl : ∀ r, ¬ (200 + 17 * k ≤ r ∧ r < 200 + 17 * k + 17) → ¬ Lr (200 + 17 * k) 17 r := fun r z => z
  have w2 := wd.chg g1 (fun r z1 z2 => nl r (by omega))
  have f5 : fi κ1 (A 29) 5 = ga 7 μ 10 := w2.2.2.1.1
  unfold wb_ErrataRow_image_37_1
  simp -implicitDefEqProofs only [hs.top, sw.1.1, wck_1, wbo_s, e1, hs1.top, hs1.w20, f5]
  have gi' : ∀ j, gi j (imM k μ) = gi j μ := fun j => by unfold imM; simp only [gi_sa]
  have ga' : ∀ j, j ≠ 17 → j ≠ 18 → j ≠ 19 → j ≠ 20 → ga j (imM k μ) = ga j μ := fun j h1 h2 h3 h4 => by unfold imM; rw [ga_sa_ne h1, ga_sa_ne h3, ga_sa_ne h2, ga_sa_ne h4]
  have g17 : ga 17 (imM k μ) = imF (ga 7 μ) (ga 17 μ) k 129 := by unfold imM; rw [ga_sa]
  have g18 : ga 18 (imM k μ) = upd (ga 18 μ) k (gi 11 μ) := by unfold imM; rw [ga_sa_ne (by decide), ga_sa_ne (by decide), ga_sa]
  have g19 : ga 19 (imM k μ) = upd (ga 19 μ) k (gi 12 μ) := by unfold imM; rw [ga_sa_ne (by decide), ga_sa]
  have g20 : ga 20 (imM k μ) = upd (ga 20 μ) k 1 := by unfold imM; rw [ga_sa_ne (by decide), ga_sa_ne (by decide), ga_sa_ne (by decide), ga_sa]
  refine h κ1 ⟨hs1, tp.ch (by rw [g1.fi (nl _ (by omega))]) (g1.ai (nl _ (by omega))) (gi' 0) (ga' 0 (by decide) (by decide) (by decide) (by decide)), ?_, ?_, ?_, ?_, ?_, ?_, ?_, ?_⟩
  · exact rl.ch hA g1.ch (by rw [g1.fi (nl _ (by omega))]) (fun q z1 z2 => nl q (by omega)) (gi' 1) (ga' 1 (by decide) (by decide) (by decide) (by decide)) (ga' 3 (by decide) (by decide) (by decide) (by decide)) (ga' 4 (by decide) (by decide) (by decide) (by decide))
  · rw [gi', gi', ga' 7 (by decide) (by decide) (by decide) (by decide)]; exact w2
  · rw [ga' 7 (by decide) (by decide) (by decide) (by decide)]; exact ok
  · rw [gi', gi']; exact fo
  · rw [gi']; exact xx
  · exact hy.ch g1.ch (nl _ (by omega)) (fun q z1 z2 => nl q (by omega)) (gi' 16) (ga' 8 (by decide) (by decide) (by decide) (by decide))
  · intro j hj
    rw [g18, g19, g20, upd_at, upd_at, upd_at, gi', g1.aq]
    by_cases e : j = k
    · subst e
      have ej : ∀ q, q < 129 → ga 7 μ q = imS (imM j μ) j q := by
        intro q hq
        unfold imS
        rw [g17]
        unfold imF
        rw [if_pos (by omega), Nat.add_sub_cancel_left]
      rw [if_pos rfl, if_pos rfl, if_pos rfl]
      exact Or.inr ⟨rfl, ha, w1.cong ej, ok.cong ej, fo, xx⟩
    · rw [if_neg e, if_neg e, if_neg e]
      have ej : ∀ q, q < 129 → imS μ j q = imS (imM k μ) j q := by
        intro q hq
        unfold imS
        rw [g17]
        unfold imF
        rw [if_neg (by omega)]
      rcases im j hj e with z | ⟨z1, z2, z3, z4, z5, z6⟩
      · exact Or.inl z
      · exact Or.inr ⟨z1, z2, (z3.chg g1 (fun r y1 y2 => nl r (by omega))).cong ej, z4.cong ej, z5, z6⟩
  · rw [gi']; exact lf
theorem sm_image (N : Nat) (hN : 20000 ≤ N) (x0 : Nat) : Sm_image N x0 (Rel x0) := by
  rintro κ μ a1 ⟨A, rfl, hR⟩
  have hs := hR.sh
  have hA := hs.inj
  by_cases hw : 0 ≤ a1 ∧ a1 ≤ 3
  · obtain ⟨k, hk, rfl⟩ := in_nat 3 (by omega) rfl hw
    have hk4 : k < 4 := by omega
    refine ⟨_, _, m_image N hN μ hk4 hw, ?_⟩
    unfold w_ErrataRow_image
    rw [c_within, wbd_s, wif10, if_pos hw]
    simp -implicitDefEqProofs only [hs.top, wck_1, wbo_s, inbT hk4 (by decide), clN (show k < 2147483648 by omega), wlt_s]
    rcases hs.im k hk4 with z | ⟨z, -⟩
    · rw [z, woc_n]
      intro q hq
      refine w_worldI N (isK_nwS q 10 0 κ) (fun κ1 Q q0 sq x q1 q2 q3 q4 => ?_)
      obtain ⟨R, r6, -, r1, -⟩ := hR.rl
      have nq : ∀ i, i < 17 → Q i ∉ Lk κ := by
        intro i hi
        by_cases h0 : i = 0
        · subst h0; rw [q0]; exact hq
        · exact fun y => q1 i (by omega) hi (in_nw.mpr (Or.inl y))
      obtain ⟨P, hP, p1, p2⟩ := newA hA (Lk κ) (200 + 17 * k) 17 Q q2 nq
      have xn : Xn κ κ1 := by
        have x1 : Xb (fun a => a = q) κ κ1 := (Xb.new hq 10 0).trans x
        exact x1.mono (fun a ha hb => hq (hb ▸ ha))
      have mem := hR.mem r6 r1
      have hR1 : RelA P κ1 μ := hR.ext r6 r1 hP xn (fun r hr => p2 r (by
        rcases hr with y | ⟨i, i1, i2, i3, i4⟩ | ⟨k', i1, i2, i3, i4⟩ | ⟨j, i1, i3, i4⟩
        · omega
        · omega
        · have : k' ≠ k := fun y => i2 (y ▸ z)
          omega
        · omega) (mem r hr))
      have hs1 := hR1.sh
      have p0 : P (200 + 17 * k) = q := (p1 0 (by omega)).trans q0
      have swd : sWd κ1 P (200 + 17 * k) := sWd.nm sq (fun i hi => by rw [p1 i hi, Nat.zero_add])
      have eP : ∀ r, r ≤ 72 → P r = A r := fun r hr => p2 r (by omega) (hs.mem r hr)
      have fK : ∀ r, r ≤ 72 → ∀ k, isK κ1 (A r) k = isK κ (A r) k := fun r hr => (xn.all (hs.mem r hr)).1
      have fF : fr κ1 (A 0) = fr κ (A 0) := (xn.all (hs.mem 0 (by omega))).2.2.2.1
      have fL : ln κ1 (A 37) = ln κ (A 37) := (xn.all (hs.mem 37 (by omega))).2.1
      have fQ : aq κ1 (A 37) = aq κ (A 37) := (xn.all (hs.mem 37 (by omega))).2.2.2.2.2
      have hk10 : isK κ1 q 10 = true := by rw [← p0]; exact swd.1.1
      simp -implicitDefEqProofs only [fK 0 (by omega), fK 37 (by omega), fF, fL, hs.top, wck_1, wbo_s, wlt_s, inbT hk4 (by decide), clN (show k < 2147483648 by omega), hk10]
      rw [← p0, ← eP 0 (by omega), ← eP 37 (by omega)]
      have hR2 : RelK k P (saq (P 37) (va_up (aq κ1 (P 37)) k (some (P (200 + 17 * k)))) κ1) μ := by
        have aqo : ∀ r, r ≠ 37 → aq (saq (P 37) (va_up (aq κ1 (P 37)) k (some (P (200 + 17 * k)))) κ1) (P r) = aq κ1 (P r) := fun r hr => va_up_ne _ _ (hP.ne hr)
        have aqs : aq (saq (P 37) (va_up (aq κ1 (P 37)) k (some (P (200 + 17 * k)))) κ1) (P 37) = va_up (aq κ1 (P 37)) k (some (P (200 + 17 * k))) := va_up_self _ _ _
        obtain ⟨a1, a2, a3, a4, a5, a6, a7, a8, a9, a10⟩ := hR1
        obtain ⟨b1, b2, b3, b4, b5, b6, b7, b8, b9, b10, b11, b12, b13⟩ := a1
        refine ⟨⟨b1, b2, b3, b4, b5, b6, b7, b8, ?_, b10, b11, ?_, ?_⟩, a2, ?_, a4, a5, a6, a7, ?_, ?_, a10⟩
        · obtain ⟨c1, c2, c3, c4, c5, c6, c7, c8, c9, c10, c11, c12⟩ := b9
          refine ⟨c1, c2, c3, c4, c5, c6, c7, c8, c9, c10, c11, ?_⟩
          rw [aqo 43 (by decide)]
          exact c12
        · intro i hi
          rw [aqo 39 (by decide)]
          exact b12 i hi
        · intro i hi
          rw [aqs]
          by_cases hin : i = k
          · subst hin
            rw [va_up_self]
            exact Or.inr ⟨rfl, swd⟩
          · rw [va_up_ne _ _ hin]
            exact b13 i hi
        · obtain ⟨R2, s1, s2, s3, s4⟩ := a3
          exact ⟨R2, s1, s2, s3, fun r hr => ⟨by rw [aqo 19 (by decide)]; exact (s4 r hr).1, (s4 r hr).2⟩⟩
        · obtain ⟨u', nx', v1, v2, v3, v4, v5, v6⟩ := a8
          refine ⟨u', nx', v1, v2, v3, v4, v5, fun j hj => ?_⟩
          obtain ⟨w1, w2, w3⟩ := v6 j hj
          exact ⟨by rw [aqo 39 (by decide)]; exact w1, w2, w3⟩
        · intro j hj hjk
          unfold ImI
          rw [aqs, va_up_ne _ _ hjk]
          exact a9 j hj
      have ha2 : aq (saq (P 37) (va_up (aq κ1 (P 37)) k (some (P (200 + 17 * k)))) κ1) (P 37) k = some (P (200 + 17 * k)) := by
        show va_up (aq κ1) (P 37) (va_up (aq κ1 (P 37)) k (some (P (200 + 17 * k)))) (P 37) k = _
        rw [va_up_self, va_up_self]
      rw [im37]
      exact image_tail N hk4 hR2 ha2 (fun κ2 hr => ⟨rfl, P, rfl, hr⟩)
    · rw [z, woc_s]
      exact image_tail N hk4 (hR.relK k) z (fun κ2 hr => ⟨rfl, A, rfl, hr⟩)
  · refine ⟨-1, μ, ?_, ?_⟩
    · unfold p12_image
      rw [m_in N a1 0 3 0 3 (by decide) (by decide), bo_s, ite10, if_neg hw]
    · unfold w_ErrataRow_image
      rw [c_within, wbd_s, wif10, if_neg hw]
      exact ⟨rfl, A, rfl, hR⟩
