/-! an ErrataRow made: the relation holds at the start -/
theorem top_step {x0 q j : Nat} {κ κ1 : Cz} (hk : isK κ x0 11 = true) (hq : q ∉ Lk κ) (x : Xb (fun a => a = q) κ κ1) : isK κ1 x0 11 = true ∧ Xb (fun a => a = x0) κ (sfr x0 j (some q) κ1) ∧ Xb (fun a => a = x0) κ1 (sfr x0 j (some q) κ1) ∧ isK (sfr x0 j (some q) κ1) x0 11 = true ∧ fr (sfr x0 j (some q) κ1) x0 = va_up (fr κ x0) j (some q) ∧ fi (sfr x0 j (some q) κ1) x0 = fi κ x0 := by
  have mx := isK_m hk
  have nx : ¬ x0 = q := fun z => hq (z ▸ mx)
  have k1 := x.isk hk
  have x2 : Xb (fun a => a = x0) κ1 (sfr x0 j (some q) κ1) := Xb.rf (B := fun a => a = x0) _ rfl j _
  refine ⟨k1, (x.mono (fun a ha hb => absurd ha (hb ▸ hq))).trans x2, x2, x2.isk k1, ?_, ?_⟩
  · show va_up (fr κ1) x0 (va_up (fr κ1 x0) j (some q)) x0 = _
    rw [va_up_self, x.frr mx nx]
  · rw [fi_fr, x.fii mx nx]
theorem nm_ex {Q P : Nat → Nat} {n m : Nat} {B B1 : Nat → Prop} {κ κa κ1 : Cz} (I : In1 Q n) (M : ∀ i, i < n → Q i ∈ Lk κ) (IP : In1 P m) (u : ∀ i, i < m → P i ∉ Lk κ) (MP : ∀ i, i < m → P i ∈ Lk κa) (xa : Xb B1 κa κ1) (x : Xb B κ κ1) : ∃ R : Nat → Nat, (∀ i, i < n → R i = Q i) ∧ (∀ i, i < m → R (n + i) = P i) ∧ In1 R (n + m) ∧ ∀ i, i < n + m → R i ∈ Lk κ1 := by
  obtain ⟨h1, h2⟩ := nm_step I M IP u (fun i hi => xa.mem (MP i hi)) x
  exact ⟨app2 n Q P, fun i hi => app2_l _ _ hi, fun i hi => app2_a _ _ _, h1, h2⟩
theorem fr_of {Q : Nat → Nat} {κ : Cz} {q K l n : Nat} (q0 : Q 0 = q) (hq : q ∉ Lk κ) (u : ∀ i, 1 ≤ i → i < n → Q i ∉ Lk (nw q K l κ)) : ∀ i, i < n → Q i ∉ Lk κ := by
  intro i hi
  by_cases z : i = 0
  · rw [z, q0]; exact hq
  · exact fun y => u i (by omega) hi (in_nw.mpr (Or.inl y))
theorem nw_facts (q K l : Nat) (κ : Cz) : isK (nw q K l κ) q K = true ∧ ln (nw q K l κ) q = l ∧ aq (nw q K l κ) q = (fun _ => none) := ⟨isK_nwS q K l κ, by rw [ln_nw, if_pos rfl], by rw [aq_nw, if_pos rfl]⟩
theorem sWd.xb {B : Nat → Prop} {κ κ1 : Cz} {Q : Nat → Nat} {b : Nat} (s : sWd κ Q b) (h : Xb B κ κ1) (nb : ∀ i, i < 17 → ¬ B (Q (b + i))) : sWd κ1 Q b := by
  obtain ⟨h1, h2, h3, h4, h5⟩ := s
  have hf := h.frr (isK_m h1.1) (nb 0 (by omega))
  exact ⟨⟨h.isk h1.1, by rw [hf]; exact h1.2.1, by rw [hf]; exact h1.2.2.1, by rw [hf]; exact h1.2.2.2⟩, h2.xb h (nb 1 (by omega)), h3.xb h (nb 5 (by omega)), h4.xb h (nb 9 (by omega)), h5.xb h (nb 13 (by omega))⟩
theorem one_mem {κ : Cz} {q : Nat} (h : q ∈ Lk κ) : ∀ i, i < 1 → (fun _ => q) i ∈ Lk κ := fun _ _ => h
theorem w_start (N x0 : Nat) : w_ErrataRow_init N x0 (nw x0 11 0 κE) (fun κ1 => Rel x0 κ1 μ0) := by
  unfold w_ErrataRow_init
  have hk0 : isK (nw x0 11 0 κE) x0 11 = true := isK_nwS _ _ _ _
  have f0 : fr (nw x0 11 0 κE) x0 = (fun _ => none) := by rw [fr_nw, if_pos rfl]
  have g0 : fi (nw x0 11 0 κE) x0 = (fun _ => 0) := by rw [fi_nw, if_pos rfl]
  generalize hκ0 : nw x0 11 0 κE = κ0 at hk0 f0 g0 ⊢
  have I0 : In1 (fun _ => x0) 1 := in1_1 x0
  have M0 : ∀ i, i < 1 → (fun _ => x0) i ∈ Lk κ0 := one_mem (isK_m hk0)
  generalize hR0 : (fun _ : Nat => x0) = R0 at I0 M0
  have R00 : R0 0 = x0 := by rw [← hR0]
  -- tape
  intro q1 h1
  rw [wlt_s]
  have F1 := nw_facts q1 20 (400 : Int32).toNatClampNeg κ0
  have x1 : Xb (fun a => a = q1) κ0 (nw q1 20 (400 : Int32).toNatClampNeg κ0) := Xb.new h1 20 (400 : Int32).toNatClampNeg
  generalize ha1 : nw q1 20 (400 : Int32).toNatClampNeg κ0 = κa1 at F1 x1 ⊢
  obtain ⟨ta1, X1, Y1, hk1, f1, g1⟩ := top_step (j := 0) hk0 h1 x1
  refine ⟨ta1, ?_⟩
  rw [wlt_s]
  obtain ⟨R1, ea1, eb1, I1, M1⟩ := nm_ex I0 M0 (in1_1 q1) (fun _ _ => h1) (one_mem (isK_m F1.1)) Y1 X1
  generalize hb1 : sfr x0 0 (some q1) κa1 = κ1 at X1 Y1 hk1 f1 g1 M1 ⊢
  -- tok
  intro q2 h2
  rw [wlt_s]
  refine w_tokensI N (isK_nwS q2 9 0 κ1) (fun κa2 P2 r2 s2 xx2 u2 iP2 => ?_)
  have x2 : Xb (fun a => a = q2) κ1 κa2 := (Xb.new h2 9 0).trans xx2
  obtain ⟨ta2, X2, Y2, hk2, f2, g2⟩ := top_step (j := 2) hk1 h2 x2
  refine ⟨ta2, ?_⟩
  rw [wlt_s]
  have mm2 := s3_mem s2
  obtain ⟨R2, ea2, eb2, I2, M2⟩ := nm_ex I1 M1 iP2 (fr_of r2 h2 u2) mm2 Y2 X2
  generalize hb2 : sfr x0 2 (some q2) κa2 = κ2 at X2 Y2 hk2 f2 g2 M2 ⊢
  -- br
  intro q3 h3
  rw [wlt_s]
  have o3 : fr (nw q3 1 0 κ2) x0 2 = some q2 := by
    rw [fr_nw, if_neg (fun z : x0 = q3 => h3 (z ▸ isK_m hk2)), f2]
    rw [va_up_self]
  rw [o3, wbo_s]
  refine w_bookReaderI N (isK_nwS q3 1 0 κ2) (fun κa3 P3 r3 kk3 fa3 fb3 sb3 ss3 xx3 u3 iP3 => ?_)
  have x3 : Xb (fun a => a = q3) κ2 κa3 := (Xb.new h3 1 0).trans xx3
  obtain ⟨ta3, X3, Y3, hk3, f3, g3⟩ := top_step (j := 3) hk2 h3 x3
  refine ⟨ta3, ?_⟩
  rw [wlt_s]
  have mm3 : ∀ i, i < 9 → P3 i ∈ Lk κa3 := fun i hi => by
    by_cases z0 : i = 0
    · rw [z0, r3]; exact isK_m kk3
    · by_cases z1 : i < 5
      · have := sBk.mem sb3 (i - 1) (by omega)
        rw [show 1 + (i - 1) = i by omega] at this
        exact this
      · have := sSt.mem ss3 (i - 5) (by omega)
        rw [show 5 + (i - 5) = i by omega] at this
        exact this
  obtain ⟨R3, ea3, eb3, I3, M3⟩ := nm_ex I2 M2 iP3 (fr_of r3 h3 u3) mm3 Y3 X3
  generalize hb3 : sfr x0 3 (some q3) κa3 = κ3 at X3 Y3 hk3 f3 g3 M3 ⊢
  -- rr
  intro q4 h4
  rw [wlt_s]
  have o4 : fr (nw q4 7 0 κ3) x0 2 = some q2 := by
    rw [fr_nw, if_neg (fun z : x0 = q4 => h4 (z ▸ isK_m hk3)), f3, f2]
    rw [va_up_ne _ _ (show 2 ≠ 3 by decide)]
    rw [va_up_self]
  rw [o4, wbo_s]
  refine w_ruleReaderI N (isK_nwS q4 7 0 κ3) (fun κa4 P4 r4 s4 fa4 xx4 u4 iP4 => ?_)
  have x4 : Xb (fun a => a = q4) κ3 κa4 := (Xb.new h4 7 0).trans xx4
  obtain ⟨ta4, X4, Y4, hk4, f4, g4⟩ := top_step (j := 4) hk3 h4 x4
  refine ⟨ta4, ?_⟩
  rw [wlt_s]
  have mm4 := s3_mem s4
  obtain ⟨R4, ea4, eb4, I4, M4⟩ := nm_ex I3 M3 iP4 (fr_of r4 h4 u4) mm4 Y4 X4
  generalize hb4 : sfr x0 4 (some q4) κa4 = κ4 at X4 Y4 hk4 f4 g4 M4 ⊢
  -- rules
  intro q5 h5
  rw [wlt_s]
  have F5 := nw_facts q5 22 (6 : Int32).toNatClampNeg κ4
  have x5 : Xb (fun a => a = q5) κ4 (nw q5 22 (6 : Int32).toNatClampNeg κ4) := Xb.new h5 22 (6 : Int32).toNatClampNeg
  generalize ha5 : nw q5 22 (6 : Int32).toNatClampNeg κ4 = κa5 at F5 x5 ⊢
  obtain ⟨ta5, X5, Y5, hk5, f5, g5⟩ := top_step (j := 5) hk4 h5 x5
  rw [wlt_s]
  obtain ⟨R5, ea5, eb5, I5, M5⟩ := nm_ex I4 M4 (in1_1 q5) (fun _ _ => h5) (one_mem (isK_m F5.1)) Y5 X5
  generalize hb5 : sfr x0 5 (some q5) κa5 = κ5 at X5 Y5 hk5 f5 g5 M5 ⊢
  -- wd
  intro q6 h6
  rw [wlt_s]
  refine w_worldI N (isK_nwS q6 10 0 κ5) (fun κa6 P6 r6 s6 xx6 u6 iP6 fw6 zw6 => ?_)
  have x6 : Xb (fun a => a = q6) κ5 κa6 := (Xb.new h6 10 0).trans xx6
  obtain ⟨ta6, X6, Y6, hk6, f6, g6⟩ := top_step (j := 7) hk5 h6 x6
  refine ⟨ta6, ?_⟩
  rw [wlt_s]
  have mm6 : ∀ i, i < 17 → P6 i ∈ Lk κa6 := fun i hi => by
    have := sWd.mem s6 i hi
    rw [Nat.zero_add] at this
    exact this
  have k6w : isK κa6 q6 10 = true := by rw [← r6]; exact s6.1.1
  have f6w : fr κa6 q6 0 = some (P6 1) := by rw [← r6]; exact s6.1.2.1
  obtain ⟨R6, ea6, eb6, I6, M6⟩ := nm_ex I5 M5 iP6 (fr_of r6 h6 u6) mm6 Y6 X6
  generalize hb6 : sfr x0 7 (some q6) κa6 = κ6 at X6 Y6 hk6 f6 g6 M6 ⊢
  -- im
  intro q7 h7
  rw [wlt_s]
  have F7 := nw_facts q7 24 (4 : Int32).toNatClampNeg κ6
  have x7 : Xb (fun a => a = q7) κ6 (nw q7 24 (4 : Int32).toNatClampNeg κ6) := Xb.new h7 24 (4 : Int32).toNatClampNeg
  generalize ha7 : nw q7 24 (4 : Int32).toNatClampNeg κ6 = κa7 at F7 x7 ⊢
  obtain ⟨ta7, X7, Y7, hk7, f7, g7⟩ := top_step (j := 8) hk6 h7 x7
  rw [wlt_s]
  obtain ⟨R7, ea7, eb7, I7, M7⟩ := nm_ex I6 M6 (in1_1 q7) (fun _ _ => h7) (one_mem (isK_m F7.1)) Y7 X7
  generalize hb7 : sfr x0 8 (some q7) κa7 = κ7 at X7 Y7 hk7 f7 g7 M7 ⊢
  -- hi
  intro q8 h8
  rw [wlt_s]
  refine w_historyI N (isK_nwS q8 2 0 κ7) (fun κa8 P8 r8 s8 xx8 u8 iP8 fw8 zw8 => ?_)
  have x8 : Xb (fun a => a = q8) κ7 κa8 := (Xb.new h8 2 0).trans xx8
  obtain ⟨ta8, X8, Y8, hk8, f8, g8⟩ := top_step (j := 9) hk7 h8 x8
  refine ⟨ta8, ?_⟩
  rw [wlt_s]
  have mm8 := s1_mem s8
  obtain ⟨R8, ea8, eb8, I8, M8⟩ := nm_ex I7 M7 iP8 (fr_of r8 h8 u8) mm8 Y8 X8
  generalize hb8 : sfr x0 9 (some q8) κa8 = κ8 at X8 Y8 hk8 f8 g8 M8 ⊢
  -- pr
  intro q9 h9
  rw [wlt_s]
  have o9 : fr (nw q9 4 0 κ8) x0 7 = some q6 := by
    rw [fr_nw, if_neg (fun z : x0 = q9 => h9 (z ▸ isK_m hk8)), f8, f7, f6]
    rw [va_up_ne _ _ (show 7 ≠ 9 by decide)]
    rw [va_up_ne _ _ (show 7 ≠ 8 by decide)]
    rw [va_up_self]
  have x67 : Xb (fun a => a = x0) κa6 κ8 := (Y6.trans X7).trans X8
  have n6x : ¬ q6 = x0 := fun z => h6 (z ▸ isK_m hk5)
  have n69 : ¬ q6 = q9 := fun z => h9 (z ▸ x67.mem (isK_m k6w))
  have p9 : isK (nw q9 4 0 κ8) q6 10 = true ∧ fr (nw q9 4 0 κ8) q6 0 = some (P6 1) := ⟨by rw [isK_nwE n69]; exact x67.isk k6w, by rw [fr_nw, if_neg n69, x67.frr (isK_m k6w) n6x]; exact f6w⟩
  rw [o9, wbo_s, p9.1, wck_1, p9.2, wbo_s]
  refine w_pressI N (isK_nwS q9 4 0 κ8) (fun κa9 P9 r9 s9 fa9 xx9 u9 iP9 => ?_)
  have x9 : Xb (fun a => a = q9) κ8 κa9 := (Xb.new h9 4 0).trans xx9
  obtain ⟨ta9, X9, Y9, hk9, f9, g9⟩ := top_step (j := 10) hk8 h9 x9
  refine ⟨ta9, ?_⟩
  rw [wlt_s]
  have mm9 := s1_mem s9
  obtain ⟨R9, ea9, eb9, I9, M9⟩ := nm_ex I8 M8 iP9 (fr_of r9 h9 u9) mm9 Y9 X9
  generalize hb9 : sfr x0 10 (some q9) κa9 = κ9 at X9 Y9 hk9 f9 g9 M9 ⊢
  -- rs
  intro q10 h10
  rw [wlt_s]
  have o10 : fr (nw q10 5 0 κ9) x0 10 = some q9 := by
    rw [fr_nw, if_neg (fun z : x0 = q10 => h10 (z ▸ isK_m hk9)), f9, va_up_self]
  rw [o10, wbo_s]
  refine w_rowSearchI N (isK_nwS q10 5 0 κ9) (fun κa10 P10 r10 kk10 fa10 kl10 as10 xx10 u10 iP10 mm10 => ?_)
  have x10 : Xb (fun a => a = q10) κ9 κa10 := (Xb.new h10 5 0).trans xx10
  obtain ⟨ta10, X10, Y10, hk10, f10, g10⟩ := top_step (j := 11) hk9 h10 x10
  refine ⟨ta10, ?_⟩
  rw [wlt_s]
  obtain ⟨R10, ea10, eb10, I10, M10⟩ := nm_ex I9 M9 iP10 (fr_of r10 h10 u10) mm10 Y10 X10
  generalize hb10 : sfr x0 11 (some q10) κa10 = κ10 at X10 Y10 hk10 f10 g10 M10 ⊢
  -- tr
  intro q11 h11
  rw [wlt_s]
  refine w_stateI N (isK_nwS q11 8 0 κ10) (fun κa11 P11 r11 s11 xx11 u11 iP11 fw11 zw11 => ?_)
  have x11 : Xb (fun a => a = q11) κ10 κa11 := (Xb.new h11 8 0).trans xx11
  obtain ⟨ta11, X11, Y11, hk11, f11, g11⟩ := top_step (j := 12) hk10 h11 x11
  refine ⟨ta11, ?_⟩
  rw [wlt_s]
  have mm11 : ∀ i, i < 4 → P11 i ∈ Lk κa11 := fun i hi => by
    have := sSt.mem s11 i hi
    rw [Nat.zero_add] at this
    exact this
  obtain ⟨R11, ea11, eb11, I11, M11⟩ := nm_ex I10 M10 iP11 (fr_of r11 h11 u11) mm11 Y11 X11
  generalize hb11 : sfr x0 12 (some q11) κa11 = κ11 at X11 Y11 hk11 f11 g11 M11 ⊢
  -- fo
  intro q12 h12
  rw [wlt_s]
  have F12 := nw_facts q12 20 (3 : Int32).toNatClampNeg κ11
  have x12 : Xb (fun a => a = q12) κ11 (nw q12 20 (3 : Int32).toNatClampNeg κ11) := Xb.new h12 20 (3 : Int32).toNatClampNeg
  generalize ha12 : nw q12 20 (3 : Int32).toNatClampNeg κ11 = κa12 at F12 x12 ⊢
  obtain ⟨ta12, X12, Y12, hk12, f12, g12⟩ := top_step (j := 13) hk11 h12 x12
  rw [wlt_s]
  obtain ⟨R12, ea12, eb12, I12, M12⟩ := nm_ex I11 M11 (in1_1 q12) (fun _ _ => h12) (one_mem (isK_m F12.1)) Y12 X12
  generalize hb12 : sfr x0 13 (some q12) κa12 = κ12 at X12 Y12 hk12 f12 g12 M12 ⊢
  -- sc
  intro q13 h13
  rw [wlt_s]
  have F13 := nw_facts q13 20 (61 : Int32).toNatClampNeg κ12
  have x13 : Xb (fun a => a = q13) κ12 (nw q13 20 (61 : Int32).toNatClampNeg κ12) := Xb.new h13 20 (61 : Int32).toNatClampNeg
  generalize ha13 : nw q13 20 (61 : Int32).toNatClampNeg κ12 = κa13 at F13 x13 ⊢
  obtain ⟨ta13, X13, Y13, hk13, f13, g13⟩ := top_step (j := 14) hk12 h13 x13
  rw [wlt_s]
  obtain ⟨R13, ea13, eb13, I13, M13⟩ := nm_ex I12 M12 (in1_1 q13) (fun _ _ => h13) (one_mem (isK_m F13.1)) Y13 X13
  generalize hb13 : sfr x0 14 (some q13) κa13 = κ13 at X13 Y13 hk13 f13 g13 M13 ⊢
  -- ga
  intro q14 h14
  rw [wlt_s]
  have F14 := nw_facts q14 20 (128 : Int32).toNatClampNeg κ13
  have x14 : Xb (fun a => a = q14) κ13 (nw q14 20 (128 : Int32).toNatClampNeg κ13) := Xb.new h14 20 (128 : Int32).toNatClampNeg
  generalize ha14 : nw q14 20 (128 : Int32).toNatClampNeg κ13 = κa14 at F14 x14 ⊢
  obtain ⟨ta14, X14, Y14, hk14, f14, g14⟩ := top_step (j := 15) hk13 h14 x14
  rw [wlt_s]
  obtain ⟨R14, ea14, eb14, I14, M14⟩ := nm_ex I13 M13 (in1_1 q14) (fun _ _ => h14) (one_mem (isK_m F14.1)) Y14 X14
  generalize hb14 : sfr x0 15 (some q14) κa14 = κ14 at X14 Y14 hk14 f14 g14 M14 ⊢
  -- all together
  have Z14 := Y14
  have W14 := X14
  have Z13 := Y13.trans W14
  have W13 := X13.trans W14
  have Z12 := Y12.trans W13
  have W12 := X12.trans W13
  have Z11 := Y11.trans W12
  have W11 := X11.trans W12
  have Z10 := Y10.trans W11
  have W10 := X10.trans W11
  have Z9 := Y9.trans W10
  have W9 := X9.trans W10
  have Z8 := Y8.trans W9
  have W8 := X8.trans W9
  have Z7 := Y7.trans W8
  have W7 := X7.trans W8
  have Z6 := Y6.trans W7
  have W6 := X6.trans W7
  have Z5 := Y5.trans W6
  have W5 := X5.trans W6
  have Z4 := Y4.trans W5
  have W4 := X4.trans W5
  have Z3 := Y3.trans W4
  have W3 := X3.trans W4
  have Z2 := Y2.trans W3
  have W2 := X2.trans W3
  have Z1 := Y1.trans W2
  have W1 := X1.trans W2
  obtain ⟨A, hA, eA, -⟩ := newA (A := fun r => r) (fun _ _ => Iff.rfl) [] 0 73 R14 I14 (fun _ _ z => absurd z (by simp))
  have c14 : ∀ i, i < 73 → A i = R14 i := fun i hi => by have := eA i hi; rw [Nat.zero_add] at this; exact this
  have c13 : ∀ i, i < 72 → A i = R13 i := fun i hi => (c14 i (by omega)).trans (ea14 i hi)
  have d14 : ∀ i, i < 1 → A (72 + i) = q14 := fun i hi => (c14 _ (by omega)).trans (eb14 i hi)
  have c12 : ∀ i, i < 71 → A i = R12 i := fun i hi => (c13 i (by omega)).trans (ea13 i hi)
  have d13 : ∀ i, i < 1 → A (71 + i) = q13 := fun i hi => (c13 _ (by omega)).trans (eb13 i hi)
  have c11 : ∀ i, i < 70 → A i = R11 i := fun i hi => (c12 i (by omega)).trans (ea12 i hi)
  have d12 : ∀ i, i < 1 → A (70 + i) = q12 := fun i hi => (c12 _ (by omega)).trans (eb12 i hi)
  have c10 : ∀ i, i < 66 → A i = R10 i := fun i hi => (c11 i (by omega)).trans (ea11 i hi)
  have d11 : ∀ i, i < 4 → A (66 + i) = P11 i := fun i hi => (c11 _ (by omega)).trans (eb11 i hi)
  have c9 : ∀ i, i < 42 → A i = R9 i := fun i hi => (c10 i (by omega)).trans (ea10 i hi)
  have d10 : ∀ i, i < 24 → A (42 + i) = P10 i := fun i hi => (c10 _ (by omega)).trans (eb10 i hi)
  have c8 : ∀ i, i < 40 → A i = R8 i := fun i hi => (c9 i (by omega)).trans (ea9 i hi)
  have d9 : ∀ i, i < 2 → A (40 + i) = P9 i := fun i hi => (c9 _ (by omega)).trans (eb9 i hi)
  have c7 : ∀ i, i < 38 → A i = R7 i := fun i hi => (c8 i (by omega)).trans (ea8 i hi)
  have d8 : ∀ i, i < 2 → A (38 + i) = P8 i := fun i hi => (c8 _ (by omega)).trans (eb8 i hi)
  have c6 : ∀ i, i < 37 → A i = R6 i := fun i hi => (c7 i (by omega)).trans (ea7 i hi)
  have d7 : ∀ i, i < 1 → A (37 + i) = q7 := fun i hi => (c7 _ (by omega)).trans (eb7 i hi)
  have c5 : ∀ i, i < 20 → A i = R5 i := fun i hi => (c6 i (by omega)).trans (ea6 i hi)
  have d6 : ∀ i, i < 17 → A (20 + i) = P6 i := fun i hi => (c6 _ (by omega)).trans (eb6 i hi)
  have c4 : ∀ i, i < 19 → A i = R4 i := fun i hi => (c5 i (by omega)).trans (ea5 i hi)
  have d5 : ∀ i, i < 1 → A (19 + i) = q5 := fun i hi => (c5 _ (by omega)).trans (eb5 i hi)
  have c3 : ∀ i, i < 15 → A i = R3 i := fun i hi => (c4 i (by omega)).trans (ea4 i hi)
  have d4 : ∀ i, i < 4 → A (15 + i) = P4 i := fun i hi => (c4 _ (by omega)).trans (eb4 i hi)
  have c2 : ∀ i, i < 6 → A i = R2 i := fun i hi => (c3 i (by omega)).trans (ea3 i hi)
  have d3 : ∀ i, i < 9 → A (6 + i) = P3 i := fun i hi => (c3 _ (by omega)).trans (eb3 i hi)
  have c1 : ∀ i, i < 2 → A i = R1 i := fun i hi => (c2 i (by omega)).trans (ea2 i hi)
  have d2 : ∀ i, i < 4 → A (2 + i) = P2 i := fun i hi => (c2 _ (by omega)).trans (eb2 i hi)
  have c0 : ∀ i, i < 1 → A i = R0 i := fun i hi => (c1 i (by omega)).trans (ea1 i hi)
  have d1 : ∀ i, i < 1 → A (1 + i) = q1 := fun i hi => (c1 _ (by omega)).trans (eb1 i hi)
  have a0 : A 0 = x0 := (c0 0 (by omega)).trans R00
  have b1 : A 1 = q1 := d1 0 (by omega)
  have n1 : ¬ q1 = x0 := fun z => h1 (z ▸ isK_m hk0)
  have b2 : A 2 = q2 := (d2 0 (by omega)).trans r2
  have n2 : ¬ q2 = x0 := fun z => h2 (z ▸ isK_m hk1)
  have b3 : A 6 = q3 := (d3 0 (by omega)).trans r3
  have n3 : ¬ q3 = x0 := fun z => h3 (z ▸ isK_m hk2)
  have b4 : A 15 = q4 := (d4 0 (by omega)).trans r4
  have n4 : ¬ q4 = x0 := fun z => h4 (z ▸ isK_m hk3)
  have b5 : A 19 = q5 := d5 0 (by omega)
  have n5 : ¬ q5 = x0 := fun z => h5 (z ▸ isK_m hk4)
  have b6 : A 20 = q6 := (d6 0 (by omega)).trans r6
  have n6 : ¬ q6 = x0 := fun z => h6 (z ▸ isK_m hk5)
  have b7 : A 37 = q7 := d7 0 (by omega)
  have n7 : ¬ q7 = x0 := fun z => h7 (z ▸ isK_m hk6)
  have b8 : A 38 = q8 := (d8 0 (by omega)).trans r8
  have n8 : ¬ q8 = x0 := fun z => h8 (z ▸ isK_m hk7)
  have b9 : A 40 = q9 := (d9 0 (by omega)).trans r9
  have n9 : ¬ q9 = x0 := fun z => h9 (z ▸ isK_m hk8)
  have b10 : A 42 = q10 := (d10 0 (by omega)).trans r10
  have n10 : ¬ q10 = x0 := fun z => h10 (z ▸ isK_m hk9)
  have b11 : A 66 = q11 := (d11 0 (by omega)).trans r11
  have n11 : ¬ q11 = x0 := fun z => h11 (z ▸ isK_m hk10)
  have b12 : A 70 = q12 := d12 0 (by omega)
  have n12 : ¬ q12 = x0 := fun z => h12 (z ▸ isK_m hk11)
  have b13 : A 71 = q13 := d13 0 (by omega)
  have n13 : ¬ q13 = x0 := fun z => h13 (z ▸ isK_m hk12)
  have b14 : A 72 = q14 := d14 0 (by omega)
  have n14 : ¬ q14 = x0 := fun z => h14 (z ▸ isK_m hk13)
  have FR : fr κ14 x0 = va_up (va_up (va_up (va_up (va_up (va_up (va_up (va_up (va_up (va_up (va_up (va_up (va_up (va_up (fun _ => none) 0 (some q1)) 2 (some q2)) 3 (some q3)) 4 (some q4)) 5 (some q5)) 7 (some q6)) 8 (some q7)) 9 (some q8)) 10 (some q9)) 11 (some q10)) 12 (some q11)) 13 (some q12)) 14 (some q13)) 15 (some q14) := by
    rw [f14, f13, f12, f11, f10, f9, f8, f7, f6, f5, f4, f3, f2, f1, f0]
  have GI : fi κ14 x0 = (fun _ => 0) := by
    rw [g14, g13, g12, g11, g10, g9, g8, g7, g6, g5, g4, g3, g2, g1, g0]
  have wT : sTop κ14 A := by
    refine ⟨by rw [a0]; exact hk14, ?_, ?_, ?_, ?_, ?_, ?_, ?_, ?_, ?_, ?_, ?_, ?_, ?_, ?_, ?_, ?_, ?_, ?_, ?_, ?_, ?_, ?_, ?_, ?_, ?_, ?_⟩
    · rw [a0, b1, FR, va_up_ne _ _ (show 0 ≠ 15 by decide), va_up_ne _ _ (show 0 ≠ 14 by decide), va_up_ne _ _ (show 0 ≠ 13 by decide), va_up_ne _ _ (show 0 ≠ 12 by decide), va_up_ne _ _ (show 0 ≠ 11 by decide), va_up_ne _ _ (show 0 ≠ 10 by decide), va_up_ne _ _ (show 0 ≠ 9 by decide), va_up_ne _ _ (show 0 ≠ 8 by decide), va_up_ne _ _ (show 0 ≠ 7 by decide), va_up_ne _ _ (show 0 ≠ 5 by decide), va_up_ne _ _ (show 0 ≠ 4 by decide), va_up_ne _ _ (show 0 ≠ 3 by decide), va_up_ne _ _ (show 0 ≠ 2 by decide), va_up_self]
    · rw [a0, b2, FR, va_up_ne _ _ (show 2 ≠ 15 by decide), va_up_ne _ _ (show 2 ≠ 14 by decide), va_up_ne _ _ (show 2 ≠ 13 by decide), va_up_ne _ _ (show 2 ≠ 12 by decide), va_up_ne _ _ (show 2 ≠ 11 by decide), va_up_ne _ _ (show 2 ≠ 10 by decide), va_up_ne _ _ (show 2 ≠ 9 by decide), va_up_ne _ _ (show 2 ≠ 8 by decide), va_up_ne _ _ (show 2 ≠ 7 by decide), va_up_ne _ _ (show 2 ≠ 5 by decide), va_up_ne _ _ (show 2 ≠ 4 by decide), va_up_ne _ _ (show 2 ≠ 3 by decide), va_up_self]
    · rw [a0, b3, FR, va_up_ne _ _ (show 3 ≠ 15 by decide), va_up_ne _ _ (show 3 ≠ 14 by decide), va_up_ne _ _ (show 3 ≠ 13 by decide), va_up_ne _ _ (show 3 ≠ 12 by decide), va_up_ne _ _ (show 3 ≠ 11 by decide), va_up_ne _ _ (show 3 ≠ 10 by decide), va_up_ne _ _ (show 3 ≠ 9 by decide), va_up_ne _ _ (show 3 ≠ 8 by decide), va_up_ne _ _ (show 3 ≠ 7 by decide), va_up_ne _ _ (show 3 ≠ 5 by decide), va_up_ne _ _ (show 3 ≠ 4 by decide), va_up_self]
    · rw [a0, b4, FR, va_up_ne _ _ (show 4 ≠ 15 by decide), va_up_ne _ _ (show 4 ≠ 14 by decide), va_up_ne _ _ (show 4 ≠ 13 by decide), va_up_ne _ _ (show 4 ≠ 12 by decide), va_up_ne _ _ (show 4 ≠ 11 by decide), va_up_ne _ _ (show 4 ≠ 10 by decide), va_up_ne _ _ (show 4 ≠ 9 by decide), va_up_ne _ _ (show 4 ≠ 8 by decide), va_up_ne _ _ (show 4 ≠ 7 by decide), va_up_ne _ _ (show 4 ≠ 5 by decide), va_up_self]
    · rw [a0, b5, FR, va_up_ne _ _ (show 5 ≠ 15 by decide), va_up_ne _ _ (show 5 ≠ 14 by decide), va_up_ne _ _ (show 5 ≠ 13 by decide), va_up_ne _ _ (show 5 ≠ 12 by decide), va_up_ne _ _ (show 5 ≠ 11 by decide), va_up_ne _ _ (show 5 ≠ 10 by decide), va_up_ne _ _ (show 5 ≠ 9 by decide), va_up_ne _ _ (show 5 ≠ 8 by decide), va_up_ne _ _ (show 5 ≠ 7 by decide), va_up_self]
    · rw [a0, b6, FR, va_up_ne _ _ (show 7 ≠ 15 by decide), va_up_ne _ _ (show 7 ≠ 14 by decide), va_up_ne _ _ (show 7 ≠ 13 by decide), va_up_ne _ _ (show 7 ≠ 12 by decide), va_up_ne _ _ (show 7 ≠ 11 by decide), va_up_ne _ _ (show 7 ≠ 10 by decide), va_up_ne _ _ (show 7 ≠ 9 by decide), va_up_ne _ _ (show 7 ≠ 8 by decide), va_up_self]
    · rw [a0, b7, FR, va_up_ne _ _ (show 8 ≠ 15 by decide), va_up_ne _ _ (show 8 ≠ 14 by decide), va_up_ne _ _ (show 8 ≠ 13 by decide), va_up_ne _ _ (show 8 ≠ 12 by decide), va_up_ne _ _ (show 8 ≠ 11 by decide), va_up_ne _ _ (show 8 ≠ 10 by decide), va_up_ne _ _ (show 8 ≠ 9 by decide), va_up_self]
    · rw [a0, b8, FR, va_up_ne _ _ (show 9 ≠ 15 by decide), va_up_ne _ _ (show 9 ≠ 14 by decide), va_up_ne _ _ (show 9 ≠ 13 by decide), va_up_ne _ _ (show 9 ≠ 12 by decide), va_up_ne _ _ (show 9 ≠ 11 by decide), va_up_ne _ _ (show 9 ≠ 10 by decide), va_up_self]
    · rw [a0, b9, FR, va_up_ne _ _ (show 10 ≠ 15 by decide), va_up_ne _ _ (show 10 ≠ 14 by decide), va_up_ne _ _ (show 10 ≠ 13 by decide), va_up_ne _ _ (show 10 ≠ 12 by decide), va_up_ne _ _ (show 10 ≠ 11 by decide), va_up_self]
    · rw [a0, b10, FR, va_up_ne _ _ (show 11 ≠ 15 by decide), va_up_ne _ _ (show 11 ≠ 14 by decide), va_up_ne _ _ (show 11 ≠ 13 by decide), va_up_ne _ _ (show 11 ≠ 12 by decide), va_up_self]
    · rw [a0, b11, FR, va_up_ne _ _ (show 12 ≠ 15 by decide), va_up_ne _ _ (show 12 ≠ 14 by decide), va_up_ne _ _ (show 12 ≠ 13 by decide), va_up_self]
    · rw [a0, b12, FR, va_up_ne _ _ (show 13 ≠ 15 by decide), va_up_ne _ _ (show 13 ≠ 14 by decide), va_up_self]
    · rw [a0, b13, FR, va_up_ne _ _ (show 14 ≠ 15 by decide), va_up_self]
    · rw [a0, b14, FR, va_up_self]
    · rw [b1]
      exact Z1.isk F1.1
    · rw [b1, Z1.lnn (isK_m F1.1)]
      exact F1.2.1
    · rw [b12]
      exact Z12.isk F12.1
    · rw [b12, Z12.lnn (isK_m F12.1)]
      exact F12.2.1
    · rw [b13]
      exact Z13.isk F13.1
    · rw [b13, Z13.lnn (isK_m F13.1)]
      exact F13.2.1
    · rw [b14]
      exact Z14.isk F14.1
    · rw [b14, Z14.lnn (isK_m F14.1)]
      exact F14.2.1
    · rw [b5]
      exact Z5.isk F5.1
    · rw [b5, Z5.lnn (isK_m F5.1)]
      exact F5.2.1
    · rw [b7]
      exact Z7.isk F7.1
    · rw [b7, Z7.lnn (isK_m F7.1)]
      exact F7.2.1
  have w2 : s3 κ14 A 2 9 0 1 2 401 401 401 := s3_nm (s3_xb s2 Z2 (by rw [r2]; exact n2)) (fun i hi => by rw [Nat.zero_add]; exact d2 i hi)
  have w7 : sBk κ14 A 7 := (sb3.xb Z3 (fun z => fr_of r3 h3 u3 1 (by omega) (z ▸ isK_m hk2))).nm (fun i hi => (by rw [show 7 + i = 6 + (1 + i) by omega]; exact d3 (1 + i) (by omega)))
  have w11 : sSt κ14 A 11 := (ss3.xb Z3 (fun z => fr_of r3 h3 u3 5 (by omega) (z ▸ isK_m hk2))).nm (fun i hi => (by rw [show 11 + i = 6 + (5 + i) by omega]; exact d3 (5 + i) (by omega)))
  have w6 : isK κ14 (A 6) 1 = true ∧ fr κ14 (A 6) 0 = some (A 2) ∧ fr κ14 (A 6) 1 = some (A 7) := by
    rw [b3, Z3.frr (isK_m kk3) n3, b2, show A 7 = P3 1 from d3 1 (by omega)]
    exact ⟨Z3.isk kk3, fa3, fb3⟩
  have w15 : s3 κ14 A 15 7 1 2 3 400 12 12 := s3_nm (s3_xb s4 Z4 (by rw [r4]; exact n4)) (fun i hi => by rw [Nat.zero_add]; exact d4 i hi)
  have k4m : q4 ∈ Lk κa4 := r4 ▸ mm4 0 (by omega)
  have w15f : fr κ14 (A 15) 0 = some (A 2) := by
    rw [b4, Z4.frr k4m n4, b2]
    exact fa4
  have nW : ∀ i, i < 17 → ¬ P6 i = x0 := fun i hi z => fr_of r6 h6 u6 i hi (z ▸ isK_m hk5)
  have w20 : sWd κ14 A 20 := sWd.nm (sWd.xb s6 Z6 (fun i hi => by rw [Nat.zero_add]; exact nW i hi)) (fun i hi => by rw [Nat.zero_add]; exact d6 i hi)
  have w38 : s1 κ14 A 38 2 2 23 20 := s1_nm (s1_xb s8 Z8 (by rw [r8]; exact n8)) (fun i hi => by rw [Nat.zero_add]; exact d8 i hi)
  have w40 : s1 κ14 A 40 4 1 21 12 := s1_nm (s1_xb s9 Z9 (by rw [r9]; exact n9)) (fun i hi => by rw [Nat.zero_add]; exact d9 i hi)
  have k9m : q9 ∈ Lk κa9 := r9 ▸ mm9 0 (by omega)
  have w40f : fr κ14 (A 40) 0 = some (A 21) := by
    rw [b9, Z9.frr k9m n9, show A 21 = P6 1 from d6 1 (by omega)]
    exact fa9
  have nS : ∀ i, i < 24 → ¬ P10 i = x0 := fun i hi z => fr_of r10 h10 u10 i hi (z ▸ isK_m hk9)
  have w42 : sRS κ14 A := by
    have e1 : A 43 = P10 1 := d10 1 (by omega)
    have e2 : A 44 = P10 2 := d10 2 (by omega)
    have e3 : A 45 = P10 3 := d10 3 (by omega)
    have q1 := Z10.aqq (mm10 1 (by omega)) (nS 1 (by omega))
    have fq := Z10.frr (isK_m kk10) n10
    refine ⟨by rw [b10]; exact Z10.isk kk10, by rw [b10, fq, b9]; exact fa10.1, by rw [b10, fq, e1]; exact fa10.2.1, by rw [b10, fq, e2]; exact fa10.2.2.1, by rw [b10, fq, e3]; exact fa10.2.2.2, by rw [e1]; exact Z10.isk kl10.1, by rw [e1, Z10.lnn (mm10 1 (by omega))]; exact kl10.2.1, by rw [e2]; exact Z10.isk kl10.2.2.1, by rw [e2, Z10.lnn (mm10 2 (by omega))]; exact kl10.2.2.2.1, by rw [e3]; exact Z10.isk kl10.2.2.2.2.1, by rw [e3, Z10.lnn (mm10 3 (by omega))]; exact kl10.2.2.2.2.2, ?_, ?_, ?_, ?_, ?_⟩
    · rw [e1, q1, show A 46 = P10 4 from d10 4 (by omega)]
      exact (as10 0 (by omega)).1
    · rw [e1, q1, show A 50 = P10 8 from d10 8 (by omega)]
      exact (as10 1 (by omega)).1
    · rw [e1, q1, show A 54 = P10 12 from d10 12 (by omega)]
      exact (as10 2 (by omega)).1
    · rw [e1, q1, show A 58 = P10 16 from d10 16 (by omega)]
      exact (as10 3 (by omega)).1
    · rw [e1, q1, show A 62 = P10 20 from d10 20 (by omega)]
      exact (as10 4 (by omega)).1
  have w46 : ∀ t, t < 5 → sSt κ14 A (46 + 4 * t) := fun t ht => ((as10 t ht).2.xb Z10 (nS _ (by omega))).nm (fun i hi => by rw [show 46 + 4 * t + i = 42 + (4 + 4 * t + i) by omega]; exact d10 _ (by omega))
  have w66 : sSt κ14 A 66 := (s11.xb Z11 (by rw [r11]; exact n11)).nm (fun i hi => by rw [Nat.zero_add]; exact d11 i hi)
  have aH : aq κ14 (A 39) = (fun _ => none) := by
    rw [show A 39 = P8 1 from d8 1 (by omega), Z8.aqq (mm8 1 (by omega)) (fun z => fr_of r8 h8 u8 1 (by omega) (z ▸ isK_m hk7))]
    exact zw8
  have aI : aq κ14 (A 37) = (fun _ => none) := by
    rw [b7, Z7.aqq (isK_m F7.1) n7]
    exact F7.2.2
  have hs : Sh κ14 A := by
    obtain ⟨v1, v2, v3, v4, v5⟩ := w20
    refine ⟨hA, wT, w2, ⟨w6.1, w6.2.1, w6.2.2, w7.1, w7.2.1, w7.2.2.1, w7.2.2.2.1, w7.2.2.2.2.1, w7.2.2.2.2.2.1, w7.2.2.2.2.2.2.1, w7.2.2.2.2.2.2.2.1, w7.2.2.2.2.2.2.2.2.1, w7.2.2.2.2.2.2.2.2.2.1, w7.2.2.2.2.2.2.2.2.2.2, w11⟩, ⟨w15.1, w15f, w15.2⟩, ⟨v1.1, v1.2.1, v1.2.2.1, v1.2.2.2, v2.1, v2.2.1, v2.2.2.1, v2.2.2.2.1, v2.2.2.2.2.1, v2.2.2.2.2.2.1, v2.2.2.2.2.2.2.1, v2.2.2.2.2.2.2.2.1, v2.2.2.2.2.2.2.2.2.1, v2.2.2.2.2.2.2.2.2.2.1, v2.2.2.2.2.2.2.2.2.2.2, v3.1, v3.2.1, v3.2.2.1, v3.2.2.2.1, v3.2.2.2.2.1, v3.2.2.2.2.2.1, v3.2.2.2.2.2.2.1, v3.2.2.2.2.2.2.2.1, v3.2.2.2.2.2.2.2.2.1, v3.2.2.2.2.2.2.2.2.2, v4.1, v4.2.1, v4.2.2.1, v4.2.2.2.1, v4.2.2.2.2.1, v4.2.2.2.2.2.1, v4.2.2.2.2.2.2.1, v4.2.2.2.2.2.2.2.1, v4.2.2.2.2.2.2.2.2.1, v4.2.2.2.2.2.2.2.2.2, v5⟩, w38, ⟨w40.1, w40f, w40.2⟩, w42, ⟨w46 0 (by omega), w46 1 (by omega), w46 2 (by omega), w46 3 (by omega), w46 4 (by omega)⟩, w66, fun i hi => Or.inl (by rw [aH]), fun i hi => Or.inl (by rw [aI])⟩
  have zW : ∀ i, 1 ≤ i → i < 17 → fi κ14 (A (20 + i)) = (fun _ => 0) ∧ (i ≠ 1 → i ≠ 5 → i ≠ 9 → i ≠ 13 → ai κ14 (A (20 + i)) = (fun _ => 0)) := by
    intro i i1 i2
    rw [d6 i i2, Z6.fii (mm6 i i2) (nW i i2), Z6.aii (mm6 i i2) (nW i i2)]
    exact zw6 i i1 i2
  have k6m : q6 ∈ Lk κa6 := isK_m k6w
  have f20 : fi κ14 (A 20) 3 = -1 ∧ fi κ14 (A 20) 4 = 0 := by
    rw [b6, Z6.fii k6m n6]
    refine ⟨fw6.1, ?_⟩
    rw [fw6.2, fi_nw, if_pos rfl]
  have bz : begS (fun _ => 0) = (fun _ => 0) := by
    funext j
    unfold begS
    simp
  have hw : Wd κ14 A 20 (fun _ => 0) (-1) 0 := by
    have z : ∀ i, 1 ≤ i → i < 17 → fi κ14 (A (20 + i)) = (fun _ => 0) := fun i i1 i2 => (zW i i1 i2).1
    have y : ∀ i, 1 ≤ i → i < 17 → i ≠ 1 → i ≠ 5 → i ≠ 9 → i ≠ 13 → ai κ14 (A (20 + i)) = (fun _ => 0) := fun i i1 i2 => (zW i i1 i2).2
    unfold Wd
    rw [bz]
    refine ⟨?_, ?_, ?_, ?_, f20.1, f20.2⟩
    · have t0 : fi κ14 (A 21) = (fun _ => 0) := z 1 (by decide) (by decide)
      have t1 : ai κ14 (A 22) = (fun _ => 0) := y 2 (by decide) (by decide) (by decide) (by decide) (by decide) (by decide)
      have t2 : ai κ14 (A 23) = (fun _ => 0) := y 3 (by decide) (by decide) (by decide) (by decide) (by decide) (by decide)
      have t3 : ai κ14 (A 24) = (fun _ => 0) := y 4 (by decide) (by decide) (by decide) (by decide) (by decide) (by decide)
      show Bk κ14 A 21 _
      simp only [Bk, t0, t1, t2, t3, implies_true, and_self]
    · have t0 : fi κ14 (A 25) = (fun _ => 0) := z 5 (by decide) (by decide)
      have t1 : ai κ14 (A 26) = (fun _ => 0) := y 6 (by decide) (by decide) (by decide) (by decide) (by decide) (by decide)
      have t2 : ai κ14 (A 27) = (fun _ => 0) := y 7 (by decide) (by decide) (by decide) (by decide) (by decide) (by decide)
      have t3 : ai κ14 (A 28) = (fun _ => 0) := y 8 (by decide) (by decide) (by decide) (by decide) (by decide) (by decide)
      show St κ14 A 25 _
      simp only [St, t0, t1, t2, t3, implies_true, and_self]
    · have t0 : fi κ14 (A 29) = (fun _ => 0) := z 9 (by decide) (by decide)
      have t1 : ai κ14 (A 30) = (fun _ => 0) := y 10 (by decide) (by decide) (by decide) (by decide) (by decide) (by decide)
      have t2 : ai κ14 (A 31) = (fun _ => 0) := y 11 (by decide) (by decide) (by decide) (by decide) (by decide) (by decide)
      have t3 : ai κ14 (A 32) = (fun _ => 0) := y 12 (by decide) (by decide) (by decide) (by decide) (by decide) (by decide)
      show St κ14 A 29 _
      simp only [St, t0, t1, t2, t3, implies_true, and_self]
    · have t0 : fi κ14 (A 33) = (fun _ => 0) := z 13 (by decide) (by decide)
      have t1 : ai κ14 (A 34) = (fun _ => 0) := y 14 (by decide) (by decide) (by decide) (by decide) (by decide) (by decide)
      have t2 : ai κ14 (A 35) = (fun _ => 0) := y 15 (by decide) (by decide) (by decide) (by decide) (by decide) (by decide)
      have t3 : ai κ14 (A 36) = (fun _ => 0) := y 16 (by decide) (by decide) (by decide) (by decide) (by decide) (by decide)
      show Nt κ14 A 33 _
      simp only [Nt, t0, t1, t2, t3, implies_true, and_self]
  have z8 : In8 0 := ⟨0, by omega, rfl⟩
  have z9 : ∃ v : Nat, v ≤ 999 ∧ (0 : Int32) = nI v := ⟨0, by omega, rfl⟩
  refine ⟨A, a0, hs, ⟨0, by omega, by rw [a0, GI]; rfl, rfl, fun i hi => absurd hi (by omega)⟩, ⟨0, by omega, by rw [a0, GI]; rfl, rfl, fun i hi => absurd hi (by omega)⟩, hw, ?_, Or.inl rfl, ⟨0, by omega, rfl⟩, ⟨0, 0, by omega, by omega, ?_, ?_, rfl, fun j hj => absurd hj (by omega)⟩, fun k hk => Or.inl ⟨rfl, by rw [aI]⟩, rfl⟩
  · exact ⟨0, 0, 0, 0, 0, by omega, rfl, by omega, rfl, by omega, rfl, ⟨z9, fun _ _ => z9⟩, fun _ _ => z8, ⟨fun _ _ => ⟨z8, z8⟩, fun _ _ => ⟨z8, z8⟩⟩, Or.inr ⟨rfl, rfl, rfl⟩, by omega, rfl, by omega, rfl, fun i hi => absurd hi (by omega)⟩
  · rw [b8, Z8.fii (r8 ▸ mm8 0 (by omega)) n8, fw8, fi_nw, if_pos rfl]; rfl
  · rw [b8, Z8.fii (r8 ▸ mm8 0 (by omega)) n8, fw8, fi_nw, if_pos rfl]; rfl
