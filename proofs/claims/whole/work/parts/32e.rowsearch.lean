/-! the row's search made -/
theorem nm_step {Q P : Nat → Nat} {n m : Nat} {B : Nat → Prop} {κ κ1 : Cz} (I : In1 Q n) (M : ∀ i, i < n → Q i ∈ Lk κ) (IP : In1 P m) (u : ∀ i, i < m → P i ∉ Lk κ) (MP : ∀ i, i < m → P i ∈ Lk κ1) (x : Xb B κ κ1) : In1 (app2 n Q P) (n + m) ∧ (∀ i, i < n + m → app2 n Q P i ∈ Lk κ1) := by
  refine ⟨in1_app I IP M u, fun i hi => ?_⟩
  by_cases a : i < n
  · rw [app2_l _ _ a]; exact x.mem (M i a)
  · rw [app2_r _ _ (by omega)]; exact MP _ (by omega)
/-- one more State for the search's row -/
theorem rs_step (N : Nat) {κ : Cz} {q o : Nat} {a : Int32} {k : Nat} {f : Cz → Prop} (ef : fr κ q 1 = some o) (ho : isK κ o 23 = true) (hl : ln κ o = 5) (ha : inb a 5 = true) (hk : a.toNatClampNeg = k) (h : ∀ (κ2 : Cz) (P : Nat → Nat), sSt κ2 P 0 → Xb (fun b => b = o) κ κ2 → aq κ2 o = va_up (aq κ o) k (some (P 0)) → (∀ i, i < 4 → P i ∉ Lk κ) → In1 P 4 → f κ2) : wbo (fr κ q 1) (fun o9 => wnw κ (fun n10 => wlt (nw n10 8 0 κ) (fun κ10 => w_State_init N n10 κ10 (fun κ11 => wck (isK κ11 o9 23) (wck (isK κ11 n10 8) (wck (inb a (ln κ11 o9)) (wlt (saq o9 (va_up (aq κ11 o9) a.toNatClampNeg (some n10)) κ11) f)))))))  := by
  rw [ef, wbo_s]
  intro n hn
  rw [wlt_s]
  refine w_stateI N (isK_nwS n 8 0 κ) (fun κ1 QS s0 ss xs us is fs zs => ?_)
  have y : Xb (fun a => a = n) κ κ1 := (Xb.new hn 8 0).trans xs
  have no : ¬ o = n := fun z => hn (z ▸ isK_m ho)
  have ho1 := y.isk ho
  have hl1 : ln κ1 o = 5 := (y.lnn (isK_m ho)).trans hl
  have hn1 : isK κ1 n 8 = true := by rw [← s0]; exact ss.1
  have u4 : ∀ i, i < 4 → QS i ∉ Lk κ := by
    intro i hi
    by_cases z : i = 0
    · rw [z, s0]; exact hn
    · exact fun y => us i (by omega) hi (in_nw.mpr (Or.inl y))
  rw [ho1, hn1, hl1, ha, wck_1, wck_1, wck_1, wlt_s, hk]
  have x2 : Xb (fun b => b = o) κ1 (saq o (va_up (aq κ1 o) k (some n)) κ1) := Xb.rw9 (B := fun b => b = o) _ rfl _
  refine h _ QS (ss.xb x2 (fun z => u4 0 (by omega) (z ▸ isK_m ho))) ((y.mono (fun a ha hb => absurd ha (hb ▸ hn))).trans x2) ?_ u4 is
  show va_up (aq κ1) o (va_up (aq κ1 o) k (some n)) o = _
  rw [va_up_self, y.aqq (isK_m ho) no, s0]
theorem Xb.tw {κ κ1 κ2 : Cz} {q n : Nat} (x : Xb (fun a => a = q) κ κ1) (y : Xb (fun a => a = n) κ1 κ2) (h : n ∉ Lk κ) : Xb (fun a => a = q) κ κ2 := by
  intro a ha
  obtain ⟨h1, h2, h3, h4⟩ := x a ha
  obtain ⟨g1, g2, g3, g4⟩ := y a h1
  refine ⟨g1, g2.trans h2, g3.trans h3, fun nb => ?_⟩
  obtain ⟨p1, p2, p3, p4, p5⟩ := h4 nb
  obtain ⟨q1, q2, q3, q4, q5⟩ := g4 (fun z => h (z ▸ ha))
  exact ⟨q1.trans p1, q2.trans p2, q3.trans p3, q4.trans p4, q5.trans p5⟩
theorem w_rowSearchI (N : Nat) {κ : Cz} {q a1 : Nat} {post : Cz → Prop} (hq : isK κ q 5 = true) (h : ∀ (κ1 : Cz) (Q : Nat → Nat), Q 0 = q → isK κ1 q 5 = true → (fr κ1 q 0 = some a1 ∧ fr κ1 q 1 = some (Q 1) ∧ fr κ1 q 2 = some (Q 2) ∧ fr κ1 q 3 = some (Q 3)) → (isK κ1 (Q 1) 23 = true ∧ ln κ1 (Q 1) = 5 ∧ isK κ1 (Q 2) 20 = true ∧ ln κ1 (Q 2) = 4 ∧ isK κ1 (Q 3) 20 = true ∧ ln κ1 (Q 3) = 4) → (∀ i, i < 5 → aq κ1 (Q 1) i = some (Q (4 + 4 * i)) ∧ sSt κ1 Q (4 + 4 * i)) → Xb (fun a => a = q) κ κ1 → (∀ i, 1 ≤ i → i < 24 → Q i ∉ Lk κ) → In1 Q 24 → (∀ i, i < 24 → Q i ∈ Lk κ1) → post κ1) : w_RowSearch_init N q a1 κ post := by
  unfold w_RowSearch_init
  have mq := isK_m hq
  intro n1 h1
  rw [wlt_s]
  have q1 : ¬ q = n1 := fun z => h1 (z ▸ mq)
  refine ⟨by rw [isK_nwE q1]; exact hq, ?_⟩
  rw [wlt_s]
  intro n4 h4
  rw [wlt_s, wlt_s]
  intro n6 h6
  rw [wlt_s, wlt_s, wlt_s]
  have a4 : ¬ (n4 ∈ Lk κ ∨ n4 = n1) := fun z => h4 (show n4 ∈ Lk κ ++ [n1] from in_ap.mpr z)
  have a6 : ¬ ((n6 ∈ Lk κ ∨ n6 = n1) ∨ n6 = n4) := fun z => h6 (show n6 ∈ (Lk κ ++ [n1]) ++ [n4] from in_ap.mpr (z.imp (fun y => in_ap.mpr y) id))
  have q4 : ¬ q = n4 := fun z => a4 (Or.inl (z ▸ mq))
  have q6 : ¬ q = n6 := fun z => a6 (Or.inl (Or.inl (z ▸ mq)))
  have d1 : ¬ n1 = n4 := fun z => a4 (Or.inr z.symm)
  have d2 : ¬ n1 = n6 := fun z => a6 (Or.inl (Or.inr z.symm))
  have d3 : ¬ n4 = n6 := fun z => a6 (Or.inr z.symm)
  have x8 : Xb (fun a => a = q) κ (sfr q 0 (some a1) (sfr q 3 (some n6) (nw n6 20 (4 : Int32).toNatClampNeg (sfr q 2 (some n4) (nw n4 20 (4 : Int32).toNatClampNeg (sfr q 1 (some n1) (nw n1 23 (5 : Int32).toNatClampNeg κ))))))) := ((((((Xb.new h1 23 _).trans (Xb.rf (B := fun a => a = q) _ rfl 1 _)).trans (Xb.new h4 20 _)).trans (Xb.rf (B := fun a => a = q) _ rfl 2 _)).trans (Xb.new h6 20 _)).trans (Xb.rf (B := fun a => a = q) _ rfl 3 _)).trans (Xb.rf (B := fun a => a = q) _ rfl 0 _)
  have fr8 : fr (sfr q 0 (some a1) (sfr q 3 (some n6) (nw n6 20 (4 : Int32).toNatClampNeg (sfr q 2 (some n4) (nw n4 20 (4 : Int32).toNatClampNeg (sfr q 1 (some n1) (nw n1 23 (5 : Int32).toNatClampNeg κ))))))) q 0 = some a1 ∧ fr (sfr q 0 (some a1) (sfr q 3 (some n6) (nw n6 20 (4 : Int32).toNatClampNeg (sfr q 2 (some n4) (nw n4 20 (4 : Int32).toNatClampNeg (sfr q 1 (some n1) (nw n1 23 (5 : Int32).toNatClampNeg κ))))))) q 1 = some n1 ∧ fr (sfr q 0 (some a1) (sfr q 3 (some n6) (nw n6 20 (4 : Int32).toNatClampNeg (sfr q 2 (some n4) (nw n4 20 (4 : Int32).toNatClampNeg (sfr q 1 (some n1) (nw n1 23 (5 : Int32).toNatClampNeg κ))))))) q 2 = some n4 ∧ fr (sfr q 0 (some a1) (sfr q 3 (some n6) (nw n6 20 (4 : Int32).toNatClampNeg (sfr q 2 (some n4) (nw n4 20 (4 : Int32).toNatClampNeg (sfr q 1 (some n1) (nw n1 23 (5 : Int32).toNatClampNeg κ))))))) q 3 = some n6 := by
    refine ⟨?_, ?_, ?_, ?_⟩
    · rw [fr_fr, if_pos ⟨rfl, rfl⟩]
    · rw [fr_fr, if_neg (by simp), fr_fr, if_neg (by simp), fr_nw, if_neg q6, fr_fr, if_neg (by simp), fr_nw, if_neg q4, fr_fr, if_pos ⟨rfl, rfl⟩]
    · rw [fr_fr, if_neg (by simp), fr_fr, if_neg (by simp), fr_nw, if_neg q6, fr_fr, if_pos ⟨rfl, rfl⟩]
    · rw [fr_fr, if_neg (by simp), fr_fr, if_pos ⟨rfl, rfl⟩]
  have k8 : (isK (sfr q 0 (some a1) (sfr q 3 (some n6) (nw n6 20 (4 : Int32).toNatClampNeg (sfr q 2 (some n4) (nw n4 20 (4 : Int32).toNatClampNeg (sfr q 1 (some n1) (nw n1 23 (5 : Int32).toNatClampNeg κ))))))) n1 23 = true ∧ ln (sfr q 0 (some a1) (sfr q 3 (some n6) (nw n6 20 (4 : Int32).toNatClampNeg (sfr q 2 (some n4) (nw n4 20 (4 : Int32).toNatClampNeg (sfr q 1 (some n1) (nw n1 23 (5 : Int32).toNatClampNeg κ))))))) n1 = 5) ∧ (isK (sfr q 0 (some a1) (sfr q 3 (some n6) (nw n6 20 (4 : Int32).toNatClampNeg (sfr q 2 (some n4) (nw n4 20 (4 : Int32).toNatClampNeg (sfr q 1 (some n1) (nw n1 23 (5 : Int32).toNatClampNeg κ))))))) n4 20 = true ∧ ln (sfr q 0 (some a1) (sfr q 3 (some n6) (nw n6 20 (4 : Int32).toNatClampNeg (sfr q 2 (some n4) (nw n4 20 (4 : Int32).toNatClampNeg (sfr q 1 (some n1) (nw n1 23 (5 : Int32).toNatClampNeg κ))))))) n4 = 4) ∧ (isK (sfr q 0 (some a1) (sfr q 3 (some n6) (nw n6 20 (4 : Int32).toNatClampNeg (sfr q 2 (some n4) (nw n4 20 (4 : Int32).toNatClampNeg (sfr q 1 (some n1) (nw n1 23 (5 : Int32).toNatClampNeg κ))))))) n6 20 = true ∧ ln (sfr q 0 (some a1) (sfr q 3 (some n6) (nw n6 20 (4 : Int32).toNatClampNeg (sfr q 2 (some n4) (nw n4 20 (4 : Int32).toNatClampNeg (sfr q 1 (some n1) (nw n1 23 (5 : Int32).toNatClampNeg κ))))))) n6 = 4) := by
    refine ⟨⟨?_, ?_⟩, ⟨?_, ?_⟩, ⟨?_, ?_⟩⟩
    · rw [isK_fr, isK_fr, isK_nwE d2, isK_fr, isK_nwE d1, isK_fr, isK_nwS]
    · rw [ln_fr, ln_fr, ln_nw, if_neg d2, ln_fr, ln_nw, if_neg d1, ln_fr, ln_nw, if_pos rfl]; rfl
    · rw [isK_fr, isK_fr, isK_nwE d3, isK_fr, isK_nwS]
    · rw [ln_fr, ln_fr, ln_nw, if_neg d3, ln_fr, ln_nw, if_pos rfl]; rfl
    · rw [isK_fr, isK_fr, isK_nwS]
    · rw [ln_fr, ln_fr, ln_nw, if_pos rfl]; rfl
  generalize hκ8 : sfr q 0 (some a1) (sfr q 3 (some n6) (nw n6 20 (4 : Int32).toNatClampNeg (sfr q 2 (some n4) (nw n4 20 (4 : Int32).toNatClampNeg (sfr q 1 (some n1) (nw n1 23 (5 : Int32).toNatClampNeg κ)))))) = κ8 at x8 fr8 k8 ⊢
  have hq8 := x8.isk hq
  obtain ⟨⟨k1, l1⟩, ⟨k4, l4⟩, ⟨k6, l6⟩⟩ := k8
  have I0 : In1 (fun i => if i = 0 then q else if i = 1 then n1 else if i = 2 then n4 else n6) 4 := in1_4 q1 q4 q6 d1 d2 d3
  have M0 : ∀ i, i < 4 → (fun i => if i = 0 then q else if i = 1 then n1 else if i = 2 then n4 else n6) i ∈ Lk κ8 := by
    intro i hi
    match i, hi with
    | 0, _ => exact isK_m hq8
    | 1, _ => exact isK_m k1
    | 2, _ => exact isK_m k4
    | 3, _ => exact isK_m k6
  have U0 : ∀ i, 1 ≤ i → i < 4 → (fun i => if i = 0 then q else if i = 1 then n1 else if i = 2 then n4 else n6) i ∉ Lk κ := by
    intro i i1 i2
    match i, i1, i2 with
    | 1, _, _ => exact h1
    | 2, _, _ => exact fun z => a4 (Or.inl z)
    | 3, _, _ => exact fun z => a6 (Or.inl (Or.inl z))
  have E0 : (fun i => if i = 0 then q else if i = 1 then n1 else if i = 2 then n4 else n6) 0 = q ∧ (fun i => if i = 0 then q else if i = 1 then n1 else if i = 2 then n4 else n6) 1 = n1 ∧ (fun i => if i = 0 then q else if i = 1 then n1 else if i = 2 then n4 else n6) 2 = n4 ∧ (fun i => if i = 0 then q else if i = 1 then n1 else if i = 2 then n4 else n6) 3 = n6 := ⟨rfl, rfl, rfl, rfl⟩
  generalize hQ0 : (fun i => if i = 0 then q else if i = 1 then n1 else if i = 2 then n4 else n6) = Q0 at I0 M0 U0 E0
  have ms : ∀ {κ' : Cz} {P : Nat → Nat}, sSt κ' P 0 → ∀ i, i < 4 → P i ∈ Lk κ' := fun s i hi => by
    have := sSt.mem s i hi
    rw [Nat.zero_add] at this
    exact this
  -- five States
  refine rs_step N fr8.2.1 k1 l1 (by decide) rfl (fun κ1 P1 s1 x1 e1 u1 i1 => ?_)
  rw [x1.isk hq8]
  refine ⟨rfl, ?_⟩
  obtain ⟨I1, M1⟩ := nm_step I0 M0 i1 u1 (ms s1) x1
  refine rs_step N (by rw [x1.frr (isK_m hq8) q1]; exact fr8.2.1) (x1.isk k1) ((x1.lnn (isK_m k1)).trans l1) (by decide) rfl (fun κ2 P2 s2 x2 e2 u2 i2 => ?_)
  have y2 := x1.trans x2
  rw [y2.isk hq8]
  refine ⟨rfl, ?_⟩
  obtain ⟨I2, M2⟩ := nm_step I1 M1 i2 u2 (ms s2) x2
  refine rs_step N (by rw [y2.frr (isK_m hq8) q1]; exact fr8.2.1) (y2.isk k1) ((y2.lnn (isK_m k1)).trans l1) (by decide) rfl (fun κ3 P3 s3 x3 e3 u3 i3 => ?_)
  have y3 := y2.trans x3
  rw [y3.isk hq8]
  refine ⟨rfl, ?_⟩
  obtain ⟨I3, M3⟩ := nm_step I2 M2 i3 u3 (ms s3) x3
  refine rs_step N (by rw [y3.frr (isK_m hq8) q1]; exact fr8.2.1) (y3.isk k1) ((y3.lnn (isK_m k1)).trans l1) (by decide) rfl (fun κ4 P4 s4 x4 e4 u4 i4 => ?_)
  have y4 := y3.trans x4
  rw [y4.isk hq8]
  refine ⟨rfl, ?_⟩
  obtain ⟨I4, M4⟩ := nm_step I3 M3 i4 u4 (ms s4) x4
  refine rs_step N (by rw [y4.frr (isK_m hq8) q1]; exact fr8.2.1) (y4.isk k1) ((y4.lnn (isK_m k1)).trans l1) (by decide) rfl (fun κ5 P5 s5 x5 e5 u5 i5 => ?_)
  have y5 := y4.trans x5
  obtain ⟨I5, M5⟩ := nm_step I4 M4 i5 u5 (ms s5) x5
  have eq0 : ∀ i, i < 4 → app2 20 (app2 16 (app2 12 (app2 8 (app2 4 Q0 P1) P2) P3) P4) P5 i = Q0 i := fun i hi => by
    rw [app2_l _ _ (by omega), app2_l _ _ (by omega), app2_l _ _ (by omega), app2_l _ _ (by omega), app2_l _ _ (by omega)]
  have eq1 : ∀ i, i < 4 → app2 20 (app2 16 (app2 12 (app2 8 (app2 4 Q0 P1) P2) P3) P4) P5 (4 + i) = P1 i := fun i hi => by
    rw [app2_l _ _ (by omega), app2_l _ _ (by omega), app2_l _ _ (by omega), app2_l _ _ (by omega), app2_a]
  have eq2 : ∀ i, i < 4 → app2 20 (app2 16 (app2 12 (app2 8 (app2 4 Q0 P1) P2) P3) P4) P5 (8 + i) = P2 i := fun i hi => by
    rw [app2_l _ _ (by omega), app2_l _ _ (by omega), app2_l _ _ (by omega), app2_a]
  have eq3 : ∀ i, i < 4 → app2 20 (app2 16 (app2 12 (app2 8 (app2 4 Q0 P1) P2) P3) P4) P5 (12 + i) = P3 i := fun i hi => by
    rw [app2_l _ _ (by omega), app2_l _ _ (by omega), app2_a]
  have eq4 : ∀ i, i < 4 → app2 20 (app2 16 (app2 12 (app2 8 (app2 4 Q0 P1) P2) P3) P4) P5 (16 + i) = P4 i := fun i hi => by
    rw [app2_l _ _ (by omega), app2_a]
  have eq5 : ∀ i, i < 4 → app2 20 (app2 16 (app2 12 (app2 8 (app2 4 Q0 P1) P2) P3) P4) P5 (20 + i) = P5 i := fun i hi => app2_a _ _ _
  generalize hQ : app2 20 (app2 16 (app2 12 (app2 8 (app2 4 Q0 P1) P2) P3) P4) P5 = Q at I5 M5 eq0 eq1 eq2 eq3 eq4 eq5
  have g0 : Q 0 = q := (eq0 0 (by omega)).trans E0.1
  have g1 : Q 1 = n1 := (eq0 1 (by omega)).trans E0.2.1
  have g2 : Q 2 = n4 := (eq0 2 (by omega)).trans E0.2.2.1
  have g3 : Q 3 = n6 := (eq0 3 (by omega)).trans E0.2.2.2
  have fq := y5.frr (isK_m hq8) q1
  have m1 : ∀ {κ' : Cz} {P : Nat → Nat}, (∀ i, i < 4 → P i ∉ Lk κ') → Xb (fun b => b = n1) κ8 κ' → ¬ P 0 = n1 := fun u x z => u 0 (by omega) (z ▸ x.mem (isK_m k1))
  have aqE : aq κ5 n1 = va_up (va_up (va_up (va_up (va_up (aq κ8 n1) 0 (some (P1 0))) 1 (some (P2 0))) 2 (some (P3 0))) 3 (some (P4 0))) 4 (some (P5 0)) := by
    rw [e5, e4, e3, e2, e1]
    rfl
  refine h κ5 Q g0 (y5.isk hq8) ⟨by rw [fq]; exact fr8.1, by rw [fq, g1]; exact fr8.2.1, by rw [fq, g2]; exact fr8.2.2.1, by rw [fq, g3]; exact fr8.2.2.2⟩ ⟨by rw [g1]; exact y5.isk k1, by rw [g1]; exact (y5.lnn (isK_m k1)).trans l1, by rw [g2]; exact y5.isk k4, by rw [g2]; exact (y5.lnn (isK_m k4)).trans l4, by rw [g3]; exact y5.isk k6, by rw [g3]; exact (y5.lnn (isK_m k6)).trans l6⟩ ?_ (Xb.tw x8 y5 h1) ?_ I5 M5
  · intro i hi
    rw [g1, aqE]
    match i, hi with
    | 0, _ =>
      refine ⟨?_, ((s1.xb (((x2.trans x3).trans x4).trans x5) (m1 u1 (Xb.refl _ _))).nm (fun i hi => by rw [Nat.zero_add]; exact eq1 i hi))⟩
      rw [va_up_ne _ _ (by decide), va_up_ne _ _ (by decide), va_up_ne _ _ (by decide), va_up_ne _ _ (by decide), va_up_self]
      exact congrArg some (eq1 0 (by omega)).symm
    | 1, _ =>
      refine ⟨?_, ((s2.xb ((x3.trans x4).trans x5) (m1 u2 x1)).nm (fun i hi => by rw [Nat.zero_add]; exact eq2 i hi))⟩
      rw [va_up_ne _ _ (by decide), va_up_ne _ _ (by decide), va_up_ne _ _ (by decide), va_up_self]
      exact congrArg some (eq2 0 (by omega)).symm
    | 2, _ =>
      refine ⟨?_, ((s3.xb (x4.trans x5) (m1 u3 y2)).nm (fun i hi => by rw [Nat.zero_add]; exact eq3 i hi))⟩
      rw [va_up_ne _ _ (by decide), va_up_ne _ _ (by decide), va_up_self]
      exact congrArg some (eq3 0 (by omega)).symm
    | 3, _ =>
      refine ⟨?_, ((s4.xb x5 (m1 u4 y3)).nm (fun i hi => by rw [Nat.zero_add]; exact eq4 i hi))⟩
      rw [va_up_ne _ _ (by decide), va_up_self]
      exact congrArg some (eq4 0 (by omega)).symm
    | 4, _ =>
      refine ⟨?_, (s5.nm (fun i hi => by rw [Nat.zero_add]; exact eq5 i hi))⟩
      rw [va_up_self]
      exact congrArg some (eq5 0 (by omega)).symm
  · intro i i1' i2'
    by_cases a : i < 4
    · rw [eq0 i a]; exact U0 i i1' a
    · by_cases b : i < 8
      · rw [show i = 4 + (i - 4) by omega, eq1 _ (by omega)]; exact x8.fresh (u1 _ (by omega))
      · by_cases c : i < 12
        · rw [show i = 8 + (i - 8) by omega, eq2 _ (by omega)]; exact x8.fresh (x1.fresh (u2 _ (by omega)))
        · by_cases d : i < 16
          · rw [show i = 12 + (i - 12) by omega, eq3 _ (by omega)]; exact x8.fresh (y2.fresh (u3 _ (by omega)))
          · by_cases e : i < 20
            · rw [show i = 16 + (i - 16) by omega, eq4 _ (by omega)]; exact x8.fresh (y3.fresh (u4 _ (by omega)))
            · rw [show i = 20 + (i - 20) by omega, eq5 _ (by omega)]; exact x8.fresh (y4.fresh (u5 _ (by omega)))
