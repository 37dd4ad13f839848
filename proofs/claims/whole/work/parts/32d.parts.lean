/-! the parts of an ErrataRow made -/
/-- an object with three rows, one row -/
abbrev s3 (κ : Cz) (Q : Nat → Nat) (b K j1 j2 j3 l1 l2 l3 : Nat) : Prop := isK κ (Q b) K = true ∧ fr κ (Q b) j1 = some (Q (b + 1)) ∧ fr κ (Q b) j2 = some (Q (b + 2)) ∧ fr κ (Q b) j3 = some (Q (b + 3)) ∧ isK κ (Q (b + 1)) 20 = true ∧ ln κ (Q (b + 1)) = l1 ∧ isK κ (Q (b + 2)) 20 = true ∧ ln κ (Q (b + 2)) = l2 ∧ isK κ (Q (b + 3)) 20 = true ∧ ln κ (Q (b + 3)) = l3
abbrev s1 (κ : Cz) (Q : Nat → Nat) (b K j k l : Nat) : Prop := isK κ (Q b) K = true ∧ fr κ (Q b) j = some (Q (b + 1)) ∧ isK κ (Q (b + 1)) k = true ∧ ln κ (Q (b + 1)) = l
theorem s3_xb {B : Nat → Prop} {κ κ1 : Cz} {Q : Nat → Nat} {b K j1 j2 j3 l1 l2 l3 : Nat} (s : s3 κ Q b K j1 j2 j3 l1 l2 l3) (h : Xb B κ κ1) (nb : ¬ B (Q b)) : s3 κ1 Q b K j1 j2 j3 l1 l2 l3 := by
  obtain ⟨h1, h2, h3, h4, h5, h6, h7, h8, h9, h10⟩ := s
  have hf := h.frr (isK_m h1) nb
  exact ⟨h.isk h1, by rw [hf]; exact h2, by rw [hf]; exact h3, by rw [hf]; exact h4, h.isk h5, (h.lnn (isK_m h5)).trans h6, h.isk h7, (h.lnn (isK_m h7)).trans h8, h.isk h9, (h.lnn (isK_m h9)).trans h10⟩
theorem s1_xb {B : Nat → Prop} {κ κ1 : Cz} {Q : Nat → Nat} {b K j k l : Nat} (s : s1 κ Q b K j k l) (h : Xb B κ κ1) (nb : ¬ B (Q b)) : s1 κ1 Q b K j k l := by
  obtain ⟨h1, h2, h5, h6⟩ := s
  have hf := h.frr (isK_m h1) nb
  exact ⟨h.isk h1, by rw [hf]; exact h2, h.isk h5, (h.lnn (isK_m h5)).trans h6⟩
theorem s3_nm {κ : Cz} {Q P : Nat → Nat} {b d K j1 j2 j3 l1 l2 l3 : Nat} (s : s3 κ Q b K j1 j2 j3 l1 l2 l3) (e : ∀ i, i < 4 → P (d + i) = Q (b + i)) : s3 κ P d K j1 j2 j3 l1 l2 l3 := by
  have e0 : P d = Q b := e 0 (by omega)
  simp only [s3, e0, e 1 (by omega), e 2 (by omega), e 3 (by omega)]
  exact s
theorem s1_nm {κ : Cz} {Q P : Nat → Nat} {b d K j k l : Nat} (s : s1 κ Q b K j k l) (e : ∀ i, i < 2 → P (d + i) = Q (b + i)) : s1 κ P d K j k l := by
  have e0 : P d = Q b := e 0 (by omega)
  simp only [s1, e0, e 1 (by omega)]
  exact s
theorem s3_mem {κ : Cz} {Q : Nat → Nat} {K j1 j2 j3 l1 l2 l3 : Nat} (s : s3 κ Q 0 K j1 j2 j3 l1 l2 l3) : ∀ i, i < 4 → Q i ∈ Lk κ := by
  intro i hi
  match i, hi with
  | 0, _ => exact isK_m s.1
  | 1, _ => exact isK_m s.2.2.2.2.1
  | 2, _ => exact isK_m s.2.2.2.2.2.2.1
  | 3, _ => exact isK_m s.2.2.2.2.2.2.2.2.1
theorem s1_mem {κ : Cz} {Q : Nat → Nat} {K j k l : Nat} (s : s1 κ Q 0 K j k l) : ∀ i, i < 2 → Q i ∈ Lk κ := by
  intro i hi
  match i, hi with
  | 0, _ => exact isK_m s.1
  | 1, _ => exact isK_m s.2.2.1
theorem in1_2 {a b : Nat} (h : a ≠ b) : In1 (fun i => if i = 0 then a else b) 2 := by
  intro i j hi hj e
  match i, hi, j, hj with
  | 0, _, 0, _ => rfl
  | 0, _, 1, _ => exact absurd e h
  | 1, _, 0, _ => exact absurd e.symm h
  | 1, _, 1, _ => rfl
theorem in1_4 {a b c d : Nat} (h1 : a ≠ b) (h2 : a ≠ c) (h3 : a ≠ d) (h4 : b ≠ c) (h5 : b ≠ d) (h6 : c ≠ d) : In1 (fun i => if i = 0 then a else if i = 1 then b else if i = 2 then c else d) 4 := by
  intro i j hi hj e
  match i, hi, j, hj with
  | 0, _, 0, _ => rfl
  | 0, _, 1, _ => exact absurd e h1
  | 0, _, 2, _ => exact absurd e h2
  | 0, _, 3, _ => exact absurd e h3
  | 1, _, 0, _ => exact absurd e.symm h1
  | 1, _, 1, _ => rfl
  | 1, _, 2, _ => exact absurd e h4
  | 1, _, 3, _ => exact absurd e h5
  | 2, _, 0, _ => exact absurd e.symm h2
  | 2, _, 1, _ => exact absurd e.symm h4
  | 2, _, 2, _ => rfl
  | 2, _, 3, _ => exact absurd e h6
  | 3, _, 0, _ => exact absurd e.symm h3
  | 3, _, 1, _ => exact absurd e.symm h5
  | 3, _, 2, _ => exact absurd e.symm h6
  | 3, _, 3, _ => rfl
/-- what T3 leaves, by names -/
theorem T3Q {κ : Cz} {q K j1 j2 j3 l1 l2 l3 n1 n4 n6 : Nat} (hq : isK κ q K = true) (h1 : n1 ∉ Lk κ) (h4 : n4 ∉ Lk (sfr q j1 (some n1) (nw n1 20 l1 κ))) (h6 : n6 ∉ Lk (sfr q j2 (some n4) (nw n4 20 l2 (sfr q j1 (some n1) (nw n1 20 l1 κ))))) (d12 : j1 ≠ j2) (d13 : j1 ≠ j3) (d23 : j2 ≠ j3) : ∃ Q : Nat → Nat, Q 0 = q ∧ s3 (T3f q j1 j2 j3 l1 l2 l3 n1 n4 n6 κ) Q 0 K j1 j2 j3 l1 l2 l3 ∧ Xb (fun a => a = q) κ (T3f q j1 j2 j3 l1 l2 l3 n1 n4 n6 κ) ∧ (∀ i, 1 ≤ i → i < 4 → Q i ∉ Lk κ) ∧ In1 Q 4 ∧ (Q 1 = n1 ∧ Q 2 = n4 ∧ Q 3 = n6) := by
  obtain ⟨x, ⟨k1, e1⟩, ⟨k4, e4⟩, ⟨k6, e6⟩, r1, r4, r6, hf, ⟨u1, u4, u6⟩, ⟨d1, d2, d3⟩, z1, z4, z6⟩ := T3 (j1 := j1) (j2 := j2) (j3 := j3) (l1 := l1) (l2 := l2) (l3 := l3) (isK_m hq) h1 h4 h6 d12 d13 d23
  refine ⟨fun i => if i = 0 then q else if i = 1 then n1 else if i = 2 then n4 else n6, rfl, ⟨x.isk hq, r1, r4, r6, k1, e1, k4, e4, k6, e6⟩, x, ?_, ?_, rfl, rfl, rfl⟩
  · intro i i1 i2
    match i, i1, i2 with
    | 1, _, _ => exact u1
    | 2, _, _ => exact u4
    | 3, _, _ => exact u6
  · exact in1_4 (fun z => u1 (z ▸ isK_m hq)) (fun z => u4 (z ▸ isK_m hq)) (fun z => u6 (z ▸ isK_m hq)) d1 d2 d3
theorem w_tokensI (N : Nat) {κ : Cz} {q : Nat} {post : Cz → Prop} (hq : isK κ q 9 = true) (h : ∀ (κ1 : Cz) (Q : Nat → Nat), Q 0 = q → s3 κ1 Q 0 9 0 1 2 401 401 401 → Xb (fun a => a = q) κ κ1 → (∀ i, 1 ≤ i → i < 4 → Q i ∉ Lk κ) → In1 Q 4 → post κ1) : w_Tokens_init N q κ post := by
  simp only [w_Tokens_init, wlt]
  intro n1 h1
  refine ⟨by rw [isK_nwE (fun z : q = n1 => h1 (z ▸ isK_m hq))]; exact hq, ?_⟩
  intro n4 h4 n6 h6
  obtain ⟨Q, q0, s, x, u, i1, -⟩ := T3Q (j1 := 0) (j2 := 1) (j3 := 2) (l1 := (401 : Int32).toNatClampNeg) (l2 := (401 : Int32).toNatClampNeg) (l3 := (401 : Int32).toNatClampNeg) hq h1 h4 h6 (by decide) (by decide) (by decide)
  exact h _ Q q0 s x u i1
theorem w_ruleReaderI (N : Nat) {κ : Cz} {q a1 : Nat} {post : Cz → Prop} (hq : isK κ q 7 = true) (h : ∀ (κ1 : Cz) (Q : Nat → Nat), Q 0 = q → s3 κ1 Q 0 7 1 2 3 400 12 12 → fr κ1 q 0 = some a1 → Xb (fun a => a = q) κ κ1 → (∀ i, 1 ≤ i → i < 4 → Q i ∉ Lk κ) → In1 Q 4 → post κ1) : w_RuleReader_init N q a1 κ post := by
  simp only [w_RuleReader_init, wlt]
  intro n1 h1
  refine ⟨by rw [isK_nwE (fun z : q = n1 => h1 (z ▸ isK_m hq))]; exact hq, ?_⟩
  intro n4 h4 n6 h6
  obtain ⟨Q, q0, s, x, u, i1, -⟩ := T3Q (j1 := 1) (j2 := 2) (j3 := 3) (l1 := (400 : Int32).toNatClampNeg) (l2 := (12 : Int32).toNatClampNeg) (l3 := (12 : Int32).toNatClampNeg) hq h1 h4 h6 (by decide) (by decide) (by decide)
  show post (sfr q 0 (some a1) (T3f q 1 2 3 (400 : Int32).toNatClampNeg (12 : Int32).toNatClampNeg (12 : Int32).toNatClampNeg n1 n4 n6 κ))
  have x2 : Xb (fun a => a = q) κ (sfr q 0 (some a1) (T3f q 1 2 3 (400 : Int32).toNatClampNeg (12 : Int32).toNatClampNeg (12 : Int32).toNatClampNeg n1 n4 n6 κ)) := x.trans (Xb.rf (B := fun a => a = q) _ rfl 0 _)
  obtain ⟨s1, s2, s3, s4, s5, s6, s7, s8, s9, s10⟩ := s
  refine h _ Q q0 ⟨s1, ?_, ?_, ?_, s5, s6, s7, s8, s9, s10⟩ ?_ x2 u i1
  · rw [fr_fr, if_neg (by simp)]; exact s2
  · rw [fr_fr, if_neg (by simp)]; exact s3
  · rw [fr_fr, if_neg (by simp)]; exact s4
  · rw [fr_fr, if_pos ⟨rfl, rfl⟩]
theorem w_historyI (N : Nat) {κ : Cz} {q : Nat} {post : Cz → Prop} (hq : isK κ q 2 = true) (h : ∀ (κ1 : Cz) (Q : Nat → Nat), Q 0 = q → s1 κ1 Q 0 2 2 23 20 → Xb (fun a => a = q) κ κ1 → (∀ i, 1 ≤ i → i < 2 → Q i ∉ Lk κ) → In1 Q 2 → fi κ1 q = fi κ q → aq κ1 (Q 1) = (fun _ => none) → post κ1) : w_History_init N q κ post := by
  simp only [w_History_init, wlt]
  intro n1 h1
  have nq : ¬ q = n1 := fun z => h1 (z ▸ isK_m hq)
  refine ⟨by rw [isK_nwE nq]; exact hq, ?_⟩
  refine h _ (fun i => if i = 0 then q else n1) rfl ⟨?_, ?_, ?_, ?_⟩ ((Xb.new h1 23 _).trans (Xb.rf (B := fun a => a = q) _ rfl 2 _)) ?_ (in1_2 nq) ?_ ?_
  · show isK _ q 2 = true
    rw [isK_fr, isK_nwE nq]; exact hq
  · show fr _ q 2 = some n1
    rw [fr_fr, if_pos ⟨rfl, rfl⟩]
  · show isK _ n1 23 = true
    rw [isK_fr, isK_nwS]
  · show ln _ n1 = 20
    rw [ln_fr, ln_nw, if_pos rfl]; rfl
  · intro i a1 a2
    rw [show i = 1 by omega]; exact h1
  · rw [fi_fr, fi_nw, if_neg nq]
  · show aq _ n1 = _
    rw [aq_fr, aq_nw, if_pos rfl]
theorem w_pressI (N : Nat) {κ : Cz} {q a1 : Nat} {post : Cz → Prop} (hq : isK κ q 4 = true) (h : ∀ (κ1 : Cz) (Q : Nat → Nat), Q 0 = q → s1 κ1 Q 0 4 1 21 12 → fr κ1 q 0 = some a1 → Xb (fun a => a = q) κ κ1 → (∀ i, 1 ≤ i → i < 2 → Q i ∉ Lk κ) → In1 Q 2 → post κ1) : w_Press_init N q a1 κ post := by
  simp only [w_Press_init, wlt]
  intro n1 h1
  have nq : ¬ q = n1 := fun z => h1 (z ▸ isK_m hq)
  refine ⟨by rw [isK_nwE nq]; exact hq, ?_⟩
  refine h _ (fun i => if i = 0 then q else n1) rfl ⟨?_, ?_, ?_, ?_⟩ ?_ ((((Xb.new h1 21 _).trans (Xb.rf (B := fun a => a = q) _ rfl 1 _)).trans (Xb.ri (B := fun a => a = q) _ rfl 3 _)).trans (Xb.rf (B := fun a => a = q) _ rfl 0 _)) ?_ (in1_2 nq)
  · show isK _ q 4 = true
    rw [isK_fr, isK_fi, isK_fr, isK_nwE nq]; exact hq
  · show fr _ q 1 = some n1
    rw [fr_fr, if_neg (by simp), fr_fi, fr_fr, if_pos ⟨rfl, rfl⟩]
  · show isK _ n1 21 = true
    rw [isK_fr, isK_fi, isK_fr, isK_nwS]
  · show ln _ n1 = 12
    rw [ln_fr, ln_fi, ln_fr, ln_nw, if_pos rfl]; rfl
  · rw [fr_fr, if_pos ⟨rfl, rfl⟩]
  · intro i a1 a2
    rw [show i = 1 by omega]; exact h1
theorem w_bookReaderI (N : Nat) {κ : Cz} {q a1 : Nat} {post : Cz → Prop} (hq : isK κ q 1 = true) (h : ∀ (κ1 : Cz) (Q : Nat → Nat), Q 0 = q → isK κ1 q 1 = true → fr κ1 q 0 = some a1 → fr κ1 q 1 = some (Q 1) → sBk κ1 Q 1 → sSt κ1 Q 5 → Xb (fun a => a = q) κ κ1 → (∀ i, 1 ≤ i → i < 9 → Q i ∉ Lk κ) → In1 Q 9 → post κ1) : w_BookReader_init N q a1 κ post := by
  simp only [w_BookReader_init, wlt]
  intro n1 h1
  have mq := isK_m hq
  have nq : ¬ q = n1 := fun z => h1 (z ▸ mq)
  refine w_bookI N (isK_nwS n1 0 0 κ) (fun κ2 QB b0 sb ss2 xb2 ub ib fb zb => ?_)
  have y2 : Xb (fun a => a = n1) κ κ2 := (Xb.new h1 0 0).trans xb2
  have x2 : Xb (fun a => a = q) κ κ2 := y2.mono (fun a ha hb => absurd ha (hb ▸ h1))
  have hq2 := y2.isk hq
  refine ⟨hq2, ?_⟩
  have x4 : Xb (fun a => a = q) κ2 (sfr q 0 (some a1) (sfr q 1 (some n1) κ2)) := (Xb.rf (B := fun a => a = q) _ rfl 1 _).trans (Xb.rf (B := fun a => a = q) _ rfl 0 _)
  have ubκ : ∀ i, i < 8 → QB i ∉ Lk κ := by
    intro i hi
    by_cases z : i = 0
    · rw [z, b0]; exact h1
    · exact fun y => ub i (by omega) hi (in_nw.mpr (Or.inl y))
  have qB : ∀ i, i < 8 → ¬ QB i = q := fun i hi z => ubκ i hi (z ▸ mq)
  have I9 : In1 (app2 1 (fun _ => q) QB) 9 := in1_app (L := Lk κ) (in1_1 q) ib (fun i hi => mq) ubκ
  have eB : ∀ i, app2 1 (fun _ => q) QB (1 + i) = QB i := fun i => app2_a _ _ _
  refine h _ (app2 1 (fun _ => q) QB) rfl (x4.isk hq2) ?_ ?_ ((sb.xb x4 (qB 0 (by omega))).nm (fun i hi => ?_)) ((ss2.xb x4 (qB 4 (by omega))).nm (fun i hi => ?_)) (x2.trans x4) ?_ I9
  · rw [fr_fr, if_pos ⟨rfl, rfl⟩]
  · rw [fr_fr, if_neg (by simp), fr_fr, if_pos ⟨rfl, rfl⟩, show app2 1 (fun _ => q) QB 1 = QB 0 from eB 0, b0]
  · rw [Nat.zero_add]; exact eB i
  · rw [show 5 + i = 1 + (4 + i) by omega]; exact eB _
  · intro i i1 i2
    rw [show i = 1 + (i - 1) by omega, eB]; exact ubκ _ (by omega)
