/-! a rule that was read is one of the rules -/
theorem getD_drop {cs : List Nat} {a : Nat} (h : a < cs.length) : cs.drop a = cs.getD a 0 :: cs.drop (a + 1) := by
  rw [List.drop_eq_getElem_cons h, List.getD_eq_getElem?_getD, List.getElem?_eq_getElem h]
  rfl
theorem tyRun_L (cs : List Nat) : ∀ (d a : Nat) (st : List Bool), a + d ≤ cs.length → tyRun (fun i => cs.getD i 0) d a st = tyL ((cs.drop a).take d) st
  | 0, a, st, _ => by
    rw [tyRun, List.take_zero, tyL]
  | d + 1, a, st, h => by
    rw [tyRun, getD_drop (show a < cs.length by omega), List.take_succ_cons, tyL]
    cases tyStep (cs.getD a 0) st with
    | none => rfl
    | some u => exact tyRun_L cs d (a + 1) u (by omega)
theorem nV_L (cs : List Nat) : ∀ (d a : Nat), a + d ≤ cs.length → nV (fun i => cs.getD i 0) d a = nvL ((cs.drop a).take d)
  | 0, a, _ => by
    rw [nV, List.take_zero, nvL]
  | d + 1, a, h => by
    rw [nV, getD_drop (show a < cs.length by omega), List.take_succ_cons, nvL, nV_L cs d (a + 1) (by omega)]
theorem RuC.new {R c : Nat} {G H Q : Nat → Int32} {s en : Nat → Nat} {cs : List Nat} {v : Nat} {A P : Nat → Nat} {κ κ1 : Cz} {μ : Mz} (h : RQ R c G H Q s en cs v A κ μ) (sr : sRu κ1 P (300 + 5 * R) cs.length c) (b1 : ∀ i, i < cs.length → ai κ1 (P (300 + 5 * R + 1)) i = ai κ (A 16) i) (b2 : ∀ i, i < c → ai κ1 (P (300 + 5 * R + 2)) i = ai κ (A 17) i) (b3 : ∀ i, i < c → ai κ1 (P (300 + 5 * R + 3)) i = ai κ (A 18) i) : RuC κ1 P μ R := by
  obtain ⟨⟨d1, d2, d3, d4, d5, d6, d7, d8, d9, d10⟩, hl, hc, h5, h4, e0, hr, -⟩ := h
  refine ⟨cs.length, c, fun i => cs.getD i 0, s, en, sr, hl, hc, h4, fun i hi => ?_, e0, ?_, fun i hi => ?_⟩
  · have hg : cs[i]? = some (cs.getD i 0) := by
      rw [List.getD_eq_getElem?_getD, List.getElem?_eq_getElem hi]
      rfl
    rw [b1 i hi]
    exact d5 i _ hg
  · rw [nV_L cs cs.length 0 (by omega), List.drop_zero, List.take_length]
    omega
  · obtain ⟨r1, r2, r3, r4, r5, r6, k1, k2, k3, k4, k5⟩ := hr i hi
    refine ⟨by rw [b2 i hi]; exact r1, by rw [b3 i hi]; exact r2, r3, r4, r5, r6, k1, k2, k3, ?_, fun z => ?_⟩
    · rw [tyRun_L cs _ _ _ (by omega)]; exact k4
    · rw [tyRun_L cs _ _ _ (by omega)]; exact k5 z
theorem RuC.mu {κ : Cz} {A : Nat → Nat} {μ μ1 : Mz} {r : Nat} (h : RuC κ A μ r) (m1 : ∀ i, i < 400 → ga 1 μ1 (400 * r + i) = ga 1 μ (400 * r + i)) (m3 : ∀ i, i < 48 → ga 3 μ1 (48 * r + i) = ga 3 μ (48 * r + i)) (m4 : ga 4 μ1 r = ga 4 μ r) : RuC κ A μ1 r := by
  obtain ⟨nc, k, g', s, en, h1, h2, h3, h4, h5, h6, h7, h8⟩ := h
  refine ⟨nc, k, g', s, en, h1, h2, h3, by rw [m4]; exact h4, fun i hi => by rw [m1 i (by omega)]; exact h5 i hi, h6, h7, fun i hi => ?_⟩
  have e0 := m3 (4 * i) (by omega)
  have e1 := m3 (4 * i + 1) (by omega)
  have e2 := m3 (4 * i + 2) (by omega)
  have e3 := m3 (4 * i + 3) (by omega)
  rw [← Nat.add_assoc] at e1 e2 e3
  rw [e0, e1, e2, e3]
  exact h8 i hi
def IRl (k : Nat) : Prop := k = 0 ∨ (2 ≤ k ∧ k ≤ 9)
/-- reading a rule leaves the relation, as long as it isn't one of the rules -/
theorem rel_read {A : Nat → Nat} {κ κ4 : Cz} {μ μ4 : Mz} {R : Nat} (hR : RelA A κ μ) (hR6 : R ≤ 6) (h1 : gi 1 μ = nI R) (C : Chg A (fun r => r ≤ 5 ∨ (15 ≤ r ∧ r ≤ 18)) κ κ4) (n06 : fi κ4 (A 0) 6 = fi κ (A 0) 6) (n01 : fi κ4 (A 0) 1 = 0) (g0 : gi 0 μ4 = 0) (M : MF IRl JRu μ μ4) (kp : KP R (ga 1 μ) (ga 3 μ) (ga 4 μ) μ4) : RelA A κ4 μ4 := by
  have hA := hR.sh.inj
  have hi : ∀ k, ¬ IRl k → gi k μ4 = gi k μ := M.1
  have hg : ∀ k, ¬ JRu k → ga k μ4 = ga k μ := M.2.1
  refine ⟨hR.sh.chg C, ⟨0, by omega, n01, g0, fun i z => absurd z (by omega)⟩, ?_, ?_, ?_, ?_, ?_, ?_, ?_, ?_⟩
  · obtain ⟨R2, r1, r2, r3, r4⟩ := hR.rl
    have e : R2 = R := (nI_eq (by omega) (by omega)).mp (r3.symm.trans h1)
    subst e
    refine ⟨R2, r1, n06.trans r2, (hi 1 (by unfold IRl; omega)).trans r3, fun r hr => ⟨by rw [C.aq]; exact (r4 r hr).1, ?_⟩⟩
    have c1 : RuC κ4 A μ r := (r4 r hr).2.chg C (fun q z1 z2 z3 => by omega) rfl rfl rfl
    exact c1.mu (fun i z => kp.1 _ (by omega)) (fun i z => kp.2.1 _ (by omega)) (kp.2.2 r (by omega))
  · rw [hg 7 (by unfold JRu; omega), hi 11 (by unfold IRl; omega), hi 12 (by unfold IRl; omega)]
    exact hR.wd.chg C (fun r z1 z2 => by omega)
  · rw [hg 7 (by unfold JRu; omega)]; exact hR.ok
  · rw [hi 11 (by unfold IRl; omega), hi 1 (by unfold IRl; omega)]; exact hR.fo
  · rw [hi 12 (by unfold IRl; omega)]; exact hR.xx
  · exact hR.hy.ch C.ch (by omega) (fun q z1 z2 => by omega) (hi 16 (by unfold IRl; omega)) (hg 8 (by unfold JRu; omega))
  · exact hR.im.ch C.ch (fun q z1 z2 => by omega) (hi 1 (by unfold IRl; omega)) (hg 17 (by unfold JRu; omega)) (hg 18 (by unfold JRu; omega)) (hg 19 (by unfold JRu; omega)) (hg 20 (by unfold JRu; omega))
  · rw [hi 13 (by unfold IRl; omega)]; exact hR.lf
theorem Fo.up {f : Int32} {R : Nat} (h : Fo f (nI R)) (hR : R < 6) : Fo f (nI (R + 1)) := by
  rcases h with z | ⟨r, r1, r2, r3⟩
  · exact Or.inl z
  · refine Or.inr ⟨r, r1, r2, ?_⟩
    have := (nI_ltI (by omega) (by omega)).mp r3
    exact (nI_ltI (by omega) (by omega)).mpr (by omega)
/-- one rule more -/
theorem rel_more {P : Nat → Nat} {κ : Cz} {μ : Mz} {R : Nat} (hR : RelA P κ μ) (h6 : R < 6) (h1 : gi 1 μ = nI R) (hn : RuC κ P μ R) : RelA P (sfi (P 0) 6 (nI (R + 1)) (saq (P 19) (va_up (aq κ (P 19)) R (some (P (300 + 5 * R)))) κ)) (si 1 (nI (R + 1)) μ) := by
  have hP := hR.sh.inj
  have aqo : ∀ r, r ≠ 19 → aq (saq (P 19) (va_up (aq κ (P 19)) R (some (P (300 + 5 * R)))) κ) (P r) = aq κ (P r) := fun r hr => va_up_ne _ _ (hP.ne hr)
  have aqs : aq (saq (P 19) (va_up (aq κ (P 19)) R (some (P (300 + 5 * R)))) κ) (P 19) = va_up (aq κ (P 19)) R (some (P (300 + 5 * R))) := va_up_self _ _ _
  have g : Chg P (fun r => r = 0) (saq (P 19) (va_up (aq κ (P 19)) R (some (P (300 + 5 * R)))) κ) (sfi (P 0) 6 (nI (R + 1)) (saq (P 19) (va_up (aq κ (P 19)) R (some (P (300 + 5 * R)))) κ)) := Chg.sfi (L := fun r => r = 0) hP _ (r := 0) rfl _ _
  obtain ⟨a1, a2, a3, a4, a5, a6, a7, a8, a9, a10⟩ := hR
  obtain ⟨b1, b2, b3, b4, b5, b6, b7, b8, b9, b10, b11, b12, b13⟩ := a1
  have sh : Sh (saq (P 19) (va_up (aq κ (P 19)) R (some (P (300 + 5 * R)))) κ) P := by
    refine ⟨b1, b2, b3, b4, b5, b6, b7, b8, ?_, b10, b11, ?_, ?_⟩
    · obtain ⟨c1, c2, c3, c4, c5, c6, c7, c8, c9, c10, c11, c12⟩ := b9
      refine ⟨c1, c2, c3, c4, c5, c6, c7, c8, c9, c10, c11, ?_⟩
      rw [aqo 43 (by decide)]
      exact c12
    · intro i hi
      rw [aqo 39 (by decide)]
      exact b12 i hi
    · intro i hi
      rw [aqo 37 (by decide)]
      exact b13 i hi
  have i1 : gi 1 (si 1 (nI (R + 1)) μ) = nI (R + 1) := gi_si _ _ _
  have io : ∀ k, k ≠ 1 → gi k (si 1 (nI (R + 1)) μ) = gi k μ := fun k hk => gi_si_ne hk _ _
  refine ⟨sh.chg g, ?_, ?_, ?_, a5, ?_, ?_, ?_, ?_, ?_⟩
  · have t : Tp (saq (P 19) (va_up (aq κ (P 19)) R (some (P (300 + 5 * R)))) κ) P μ := a2
    exact t.ch (by rw [fi_fi, if_neg (by simp)]) (g.ai (by omega)) (io 0 (by decide)) rfl
  · obtain ⟨R2, s1, s2, s3, s4⟩ := a3
    have e : R2 = R := (nI_eq (by omega) (by omega)).mp (s3.symm.trans h1)
    subst e
    refine ⟨R2 + 1, by omega, by rw [fi_fi, if_pos ⟨rfl, rfl⟩], i1, fun r hr => ?_⟩
    rw [g.aq, aqs]
    by_cases q : r = R2
    · subst q
      rw [va_up_self]
      have hn' : RuC (saq (P 19) (va_up (aq κ (P 19)) r (some (P (300 + 5 * r)))) κ) P μ r := hn
      exact ⟨rfl, hn'.chg g (fun q z1 z2 z3 => by omega) rfl rfl rfl⟩
    · rw [va_up_ne _ _ q]
      obtain ⟨t1, t2⟩ := s4 r (by omega)
      have t2' : RuC (saq (P 19) (va_up (aq κ (P 19)) R2 (some (P (300 + 5 * R2)))) κ) P μ r := t2
      exact ⟨t1, t2'.chg g (fun q z1 z2 z3 => by omega) rfl rfl rfl⟩
  · rw [io 11 (by decide), io 12 (by decide)]
    have w : Wd (saq (P 19) (va_up (aq κ (P 19)) R (some (P (300 + 5 * R)))) κ) P 20 (ga 7 μ) (gi 11 μ) (gi 12 μ) := a4
    exact w.chg g (fun r z1 z2 z3 => by omega)
  · rw [io 11 (by decide), i1]
    rw [h1] at a6
    exact a6.up h6
  · rw [io 12 (by decide)]; exact a7
  · have hy : Hy (saq (P 19) (va_up (aq κ (P 19)) R (some (P (300 + 5 * R)))) κ) P μ := by
      obtain ⟨u', nx', v1, v2, v3, v4, v5, v6⟩ := a8
      refine ⟨u', nx', v1, v2, v3, v4, v5, fun j hj => ?_⟩
      obtain ⟨w1, w2, w3⟩ := v6 j hj
      exact ⟨by rw [aqo 39 (by decide)]; exact w1, w2, w3⟩
    exact hy.ch g.ch (by omega) (fun q z1 z2 z3 => by omega) (io 16 (by decide)) rfl
  · intro k hk
    rw [g.aq, aqo 37 (by decide), i1]
    rcases a9 k hk with z | ⟨z1, z2, z3, z4, z5, z6⟩
    · exact Or.inl z
    · rw [h1] at z5
      have z3' : Wd (saq (P 19) (va_up (aq κ (P 19)) R (some (P (300 + 5 * R)))) κ) P (200 + 17 * k) (imS μ k) (ga 18 μ k) (ga 19 μ k) := z3
      exact Or.inr ⟨z1, z2, z3'.chg g (fun r y1 y2 y3 => by omega), z4, z5.up h6, z6⟩
  · rw [io 13 (by decide)]; exact a10
