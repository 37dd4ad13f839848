/-! Worlds made; image -/
def app2 (n : Nat) (Q P : Nat → Nat) (i : Nat) : Nat := if i < n then Q i else P (i - n)
theorem app2_l {n i : Nat} (Q P : Nat → Nat) (h : i < n) : app2 n Q P i = Q i := if_pos h
theorem app2_r {n i : Nat} (Q P : Nat → Nat) (h : n ≤ i) : app2 n Q P i = P (i - n) := if_neg (by omega)
theorem app2_a {n : Nat} (Q P : Nat → Nat) (i : Nat) : app2 n Q P (n + i) = P i := by
  rw [app2_r Q P (by omega), Nat.add_sub_cancel_left]
theorem in1_app {Q P : Nat → Nat} {n m : Nat} {L : List Nat} (hQ : In1 Q n) (hP : In1 P m) (hl : ∀ i, i < n → Q i ∈ L) (hu : ∀ i, i < m → P i ∉ L) : In1 (app2 n Q P) (n + m) := by
  intro i j hi hj e
  by_cases a : i < n
  · by_cases b : j < n
    · rw [app2_l Q P a, app2_l Q P b] at e
      exact hQ i j a b e
    · rw [app2_l Q P a, app2_r Q P (by omega)] at e
      exact absurd (e ▸ hl i a) (hu (j - n) (by omega))
  · by_cases b : j < n
    · rw [app2_r Q P (by omega), app2_l Q P b] at e
      exact absurd (e ▸ hl j b) (hu (i - n) (by omega))
    · rw [app2_r Q P (by omega), app2_r Q P (by omega)] at e
      have := hP (i - n) (j - n) (by omega) (by omega) e
      omega
theorem in1_1 (q : Nat) : In1 (fun _ => q) 1 := fun i j hi hj _ => by omega
theorem Xb.mem {B : Nat → Prop} {κ κ1 : Cz} (h : Xb B κ κ1) {a : Nat} (ha : a ∈ Lk κ) : a ∈ Lk κ1 := (h a ha).1
theorem Xb.fii {B : Nat → Prop} {κ κ1 : Cz} (h : Xb B κ κ1) {a : Nat} (ha : a ∈ Lk κ) (nb : ¬ B a) : fi κ1 a = fi κ a := ((h a ha).2.2.2 nb).1
theorem Xb.aii {B : Nat → Prop} {κ κ1 : Cz} (h : Xb B κ κ1) {a : Nat} (ha : a ∈ Lk κ) (nb : ¬ B a) : ai κ1 a = ai κ a := ((h a ha).2.2.2 nb).2.2.1
theorem Xb.aqq {B : Nat → Prop} {κ κ1 : Cz} (h : Xb B κ κ1) {a : Nat} (ha : a ∈ Lk κ) (nb : ¬ B a) : aq κ1 a = aq κ a := ((h a ha).2.2.2 nb).2.2.2.2
theorem Xb.fresh {B : Nat → Prop} {κ κ1 : Cz} (h : Xb B κ κ1) {a : Nat} (ha : a ∉ Lk κ1) : a ∉ Lk κ := fun z => ha (h a z).1
theorem w_worldI (N : Nat) {κ : Cz} {q : Nat} {post : Cz → Prop} (hq : isK κ q 10 = true) (h : ∀ (κ1 : Cz) (Q : Nat → Nat), Q 0 = q → sWd κ1 Q 0 → Xb (fun a => a = q) κ κ1 → (∀ i, 1 ≤ i → i < 17 → Q i ∉ Lk κ) → In1 Q 17 → fi κ1 q 3 = -1 ∧ fi κ1 q 4 = fi κ q 4 → (∀ i, 1 ≤ i → i < 17 → fi κ1 (Q i) = (fun _ => 0) ∧ (i ≠ 1 → i ≠ 5 → i ≠ 9 → i ≠ 13 → ai κ1 (Q i) = (fun _ => 0))) → post κ1) : w_World_init N q κ post := by
  simp only [w_World_init, wlt]
  have mq := isK_m hq
  intro n1 h1
  refine w_bookI N (isK_nwS n1 0 0 κ) (fun κ2 QB b0 sb ss2 xb2 ub ib fb zb => ?_)
  have nq1 : ¬ q = n1 := fun z => h1 (z ▸ mq)
  have y2 : Xb (fun a => a = n1) κ κ2 := (Xb.new h1 0 0).trans xb2
  have x2 : Xb (fun a => a = q) κ κ2 := y2.mono (fun a ha hb => absurd ha (hb ▸ h1))
  have hq2 := y2.isk hq
  refine ⟨hq2, ?_⟩
  have x4 : Xb (fun a => a = q) κ2 (sfr q 0 (some n1) κ2) := Xb.rf (B := fun a => a = q) _ rfl 0 _
  have f4 : fr (sfr q 0 (some n1) κ2) q 0 = some n1 := by rw [fr_fr, if_pos ⟨rfl, rfl⟩]
  have i4 : fi (sfr q 0 (some n1) κ2) q = fi κ q := by rw [fi_fr, y2.fii mq nq1]
  have hq4 := x4.isk hq2
  generalize hκ4 : sfr q 0 (some n1) κ2 = κ4 at x4 f4 i4 hq4 ⊢
  intro n5 h5
  refine w_stateI N (isK_nwS n5 8 0 κ4) (fun κ6 QS s0 ss6 xs6 us is fs zs => ?_)
  have y6 : Xb (fun a => a = n5) κ4 κ6 := (Xb.new h5 8 0).trans xs6
  have x6 : Xb (fun a => a = q) κ4 κ6 := y6.mono (fun a ha hb => absurd ha (hb ▸ h5))
  have nq5 : ¬ q = n5 := fun z => h5 (z ▸ isK_m hq4)
  have hq6 := y6.isk hq4
  refine ⟨hq6, ?_⟩
  have x8 : Xb (fun a => a = q) κ6 (sfr q 1 (some n5) κ6) := Xb.rf (B := fun a => a = q) _ rfl 1 _
  have f8 : fr (sfr q 1 (some n5) κ6) q 0 = some n1 ∧ fr (sfr q 1 (some n5) κ6) q 1 = some n5 := ⟨by rw [fr_fr, if_neg (by simp), y6.frr (isK_m hq4) nq5]; exact f4, by rw [fr_fr, if_pos ⟨rfl, rfl⟩]⟩
  have i8 : fi (sfr q 1 (some n5) κ6) q = fi κ q := by rw [fi_fr, y6.fii (isK_m hq4) nq5, i4]
  have hq8 := x8.isk hq6
  generalize hκ8 : sfr q 1 (some n5) κ6 = κ8 at x8 f8 i8 hq8 ⊢
  intro n9 h9
  refine w_notesI N (isK_nwS n9 3 0 κ8) (fun κ10 QN t0 st10 xt10 ut it ft zt => ?_)
  have y10 : Xb (fun a => a = n9) κ8 κ10 := (Xb.new h9 3 0).trans xt10
  have x10 : Xb (fun a => a = q) κ8 κ10 := y10.mono (fun a ha hb => absurd ha (hb ▸ h9))
  have nq9 : ¬ q = n9 := fun z => h9 (z ▸ isK_m hq8)
  have hq10 := y10.isk hq8
  refine ⟨hq10, ?_⟩
  have x13 : Xb (fun a => a = q) κ10 (sfi q 3 (-1) (sfr q 2 (some n9) κ10)) := (Xb.rf (B := fun a => a = q) _ rfl 2 _).trans (Xb.ri (B := fun a => a = q) _ rfl 3 _)
  have f13 : fr (sfi q 3 (-1) (sfr q 2 (some n9) κ10)) q 0 = some n1 ∧ fr (sfi q 3 (-1) (sfr q 2 (some n9) κ10)) q 1 = some n5 ∧ fr (sfi q 3 (-1) (sfr q 2 (some n9) κ10)) q 2 = some n9 := by
    have e := y10.frr (isK_m hq8) nq9
    refine ⟨?_, ?_, ?_⟩
    · rw [fr_fi, fr_fr, if_neg (by simp), e]; exact f8.1
    · rw [fr_fi, fr_fr, if_neg (by simp), e]; exact f8.2
    · rw [fr_fi, fr_fr, if_pos ⟨rfl, rfl⟩]
  have i13 : fi (sfi q 3 (-1) (sfr q 2 (some n9) κ10)) q 3 = -1 ∧ fi (sfi q 3 (-1) (sfr q 2 (some n9) κ10)) q 4 = fi κ q 4 := by
    refine ⟨by rw [fi_fi, if_pos ⟨rfl, rfl⟩], ?_⟩
    rw [fi_fi, if_neg (by simp), fi_fr, y10.fii (isK_m hq8) nq9, i8]
  have hq13 := x13.isk hq10
  generalize hκ13 : sfi q 3 (-1) (sfr q 2 (some n9) κ10) = κ13 at x13 f13 i13 hq13 ⊢
  -- names
  have mb : ∀ i, i < 8 → QB i ∈ Lk κ2 := by
    intro i hi
    by_cases a : i < 4
    · have := sBk.mem sb i a
      rw [Nat.zero_add] at this
      exact this
    · have := sSt.mem ss2 (i - 4) (by omega)
      rw [show 4 + (i - 4) = i by omega] at this
      exact this
  have ms : ∀ i, i < 4 → QS i ∈ Lk κ6 := by
    intro i hi
    have := sSt.mem ss6 i hi
    rw [Nat.zero_add] at this
    exact this
  have mt : ∀ i, i < 4 → QN i ∈ Lk κ10 := by
    intro i hi
    have := sNt.mem st10 i hi
    rw [Nat.zero_add] at this
    exact this
  have ubκ : ∀ i, i < 8 → QB i ∉ Lk κ := by
    intro i hi
    by_cases z : i = 0
    · rw [z, b0]; exact h1
    · exact fun y => ub i (by omega) hi (in_nw.mpr (Or.inl y))
  have us4 : ∀ i, i < 4 → QS i ∉ Lk κ4 := by
    intro i hi
    by_cases z : i = 0
    · rw [z, s0]; exact h5
    · exact fun y => us i (by omega) hi (in_nw.mpr (Or.inl y))
  have ut8 : ∀ i, i < 4 → QN i ∉ Lk κ8 := by
    intro i hi
    by_cases z : i = 0
    · rw [z, t0]; exact h9
    · exact fun y => ut i (by omega) hi (in_nw.mpr (Or.inl y))
  have qB : ∀ i, i < 8 → ¬ QB i = q := fun i hi z => ubκ i hi (z ▸ mq)
  have qS : ∀ i, i < 4 → ¬ QS i = q := fun i hi z => us4 i hi (z ▸ isK_m hq4)
  have qN : ∀ i, i < 4 → ¬ QN i = q := fun i hi z => ut8 i hi (z ▸ isK_m hq8)
  have xB : Xb (fun a => a = q) κ2 κ13 := (((x4.trans x6).trans x8).trans x10).trans x13
  have xS : Xb (fun a => a = q) κ6 κ13 := (x8.trans x10).trans x13
  have I9 : In1 (app2 1 (fun _ => q) QB) 9 := in1_app (L := Lk κ) (in1_1 q) ib (fun i hi => mq) ubκ
  have m9 : ∀ i, i < 9 → app2 1 (fun _ => q) QB i ∈ Lk κ4 := by
    intro i hi
    by_cases a : i < 1
    · rw [app2_l _ _ a]; exact isK_m hq4
    · rw [app2_r _ _ (by omega)]; exact x4.mem (mb _ (by omega))
  have I13 : In1 (app2 9 (app2 1 (fun _ => q) QB) QS) 13 := in1_app (L := Lk κ4) I9 is m9 us4
  have m13 : ∀ i, i < 13 → app2 9 (app2 1 (fun _ => q) QB) QS i ∈ Lk κ8 := by
    intro i hi
    by_cases a : i < 9
    · rw [app2_l _ _ a]; exact x8.mem (x6.mem (m9 i a))
    · rw [app2_r _ _ (by omega)]; exact x8.mem (ms _ (by omega))
  have I17 : In1 (app2 13 (app2 9 (app2 1 (fun _ => q) QB) QS) QN) 17 := in1_app (L := Lk κ8) I13 it m13 ut8
  have eB : ∀ i, i < 8 → app2 13 (app2 9 (app2 1 (fun _ => q) QB) QS) QN (1 + i) = QB i := fun i hi => by
    rw [app2_l _ _ (by omega), app2_l _ _ (by omega), app2_a]
  have eS : ∀ i, i < 4 → app2 13 (app2 9 (app2 1 (fun _ => q) QB) QS) QN (9 + i) = QS i := fun i hi => by
    rw [app2_l _ _ (by omega), app2_a]
  have eNn : ∀ i, i < 4 → app2 13 (app2 9 (app2 1 (fun _ => q) QB) QS) QN (13 + i) = QN i := fun i hi => by
    rw [app2_a]
  have e0 : app2 13 (app2 9 (app2 1 (fun _ => q) QB) QS) QN 0 = q := rfl
  refine h κ13 (app2 13 (app2 9 (app2 1 (fun _ => q) QB) QS) QN) e0 ⟨⟨?_, ?_, ?_, ?_⟩, ?_, ?_, ?_, ?_⟩ ((((x2.trans x4).trans x6).trans (x8.trans x10)).trans x13) ?_ I17 i13 ?_
  · rw [e0]; exact hq13
  · rw [e0, show app2 13 (app2 9 (app2 1 (fun _ => q) QB) QS) QN (0 + 1) = QB 0 from eB 0 (by omega), b0]; exact f13.1
  · rw [e0, show app2 13 (app2 9 (app2 1 (fun _ => q) QB) QS) QN (0 + 9) = QS 0 from eS 0 (by omega), s0]; exact f13.2.1
  · rw [e0, show app2 13 (app2 9 (app2 1 (fun _ => q) QB) QS) QN (0 + 13) = QN 0 from eNn 0 (by omega), t0]; exact f13.2.2
  · exact (sb.xb xB (qB 0 (by omega))).nm (fun i hi => by rw [Nat.zero_add, Nat.zero_add]; exact eB i (by omega))
  · exact (ss2.xb xB (qB 4 (by omega))).nm (fun i hi => by rw [show 0 + 5 + i = 1 + (4 + i) by omega]; exact eB (4 + i) (by omega))
  · exact (ss6.xb xS (qS 0 (by omega))).nm (fun i hi => by rw [Nat.zero_add, Nat.zero_add]; exact eS i hi)
  · exact (st10.xb x13 (qN 0 (by omega))).nm (fun i hi => by rw [Nat.zero_add, Nat.zero_add]; exact eNn i hi)
  · intro i i1 i2
    by_cases a : i < 9
    · rw [show i = 1 + (i - 1) by omega, eB (i - 1) (by omega)]; exact ubκ _ (by omega)
    · by_cases b : i < 13
      · rw [show i = 9 + (i - 9) by omega, eS (i - 9) (by omega)]; exact (x2.trans x4).fresh (us4 _ (by omega))
      · rw [show i = 13 + (i - 13) by omega, eNn (i - 13) (by omega)]; exact ((x2.trans x4).trans (x6.trans x8)).fresh (ut8 _ (by omega))
  · intro i i1 i2
    by_cases a : i < 9
    · rw [show i = 1 + (i - 1) by omega, eB (i - 1) (by omega)]
      have hm := mb (i - 1) (by omega)
      have hnq := qB (i - 1) (by omega)
      by_cases z : i = 1
      · refine ⟨?_, fun y => absurd z (by omega)⟩
        rw [xB.fii hm hnq, show i - 1 = 0 by omega, b0, fb, fi_nw, if_pos rfl]
      · have hz := zb (i - 1) (by omega) (by omega)
        refine ⟨by rw [xB.fii hm hnq]; exact hz.1, fun _ y _ _ => ?_⟩
        rw [xB.aii hm hnq]
        exact hz.2 (by omega)
    · by_cases b : i < 13
      · rw [show i = 9 + (i - 9) by omega, eS (i - 9) (by omega)]
        have hm := ms (i - 9) (by omega)
        have hnq := qS (i - 9) (by omega)
        by_cases z : i = 9
        · refine ⟨?_, fun _ _ y => absurd z (by omega)⟩
          rw [xS.fii hm hnq, show i - 9 = 0 by omega, s0, fs, fi_nw, if_pos rfl]
        · have hz := zs (i - 9) (by omega) (by omega)
          exact ⟨by rw [xS.fii hm hnq]; exact hz.1, fun _ _ _ _ => by rw [xS.aii hm hnq]; exact hz.2⟩
      · rw [show i = 13 + (i - 13) by omega, eNn (i - 13) (by omega)]
        have hm := mt (i - 13) (by omega)
        have hnq := qN (i - 13) (by omega)
        by_cases z : i = 13
        · refine ⟨?_, fun _ _ _ y => absurd z (by omega)⟩
          rw [x13.fii hm hnq, show i - 13 = 0 by omega, t0, ft, fi_nw, if_pos rfl]
        · have hz := zt (i - 13) (by omega) (by omega)
          exact ⟨by rw [x13.fii hm hnq]; exact hz.1, fun _ _ _ _ => by rw [x13.aii hm hnq]; exact hz.2⟩
