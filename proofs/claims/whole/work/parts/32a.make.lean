/-! three rows of an object; Books, Worlds made -/
def T3f (q j1 j2 j3 l1 l2 l3 n1 n4 n6 : Nat) (κ : Cz) : Cz := sfr q j3 (some n6) (nw n6 20 l3 (sfr q j2 (some n4) (nw n4 20 l2 (sfr q j1 (some n1) (nw n1 20 l1 κ)))))
theorem T3 {κ : Cz} {q j1 j2 j3 l1 l2 l3 n1 n4 n6 : Nat} (mq : q ∈ Lk κ) (h1 : n1 ∉ Lk κ) (h4 : n4 ∉ Lk (sfr q j1 (some n1) (nw n1 20 l1 κ))) (h6 : n6 ∉ Lk (sfr q j2 (some n4) (nw n4 20 l2 (sfr q j1 (some n1) (nw n1 20 l1 κ))))) (d12 : j1 ≠ j2) (d13 : j1 ≠ j3) (d23 : j2 ≠ j3) : Xb (fun a => a = q) κ (T3f q j1 j2 j3 l1 l2 l3 n1 n4 n6 κ) ∧ (isK (T3f q j1 j2 j3 l1 l2 l3 n1 n4 n6 κ) n1 20 = true ∧ ln (T3f q j1 j2 j3 l1 l2 l3 n1 n4 n6 κ) n1 = l1) ∧ (isK (T3f q j1 j2 j3 l1 l2 l3 n1 n4 n6 κ) n4 20 = true ∧ ln (T3f q j1 j2 j3 l1 l2 l3 n1 n4 n6 κ) n4 = l2) ∧ (isK (T3f q j1 j2 j3 l1 l2 l3 n1 n4 n6 κ) n6 20 = true ∧ ln (T3f q j1 j2 j3 l1 l2 l3 n1 n4 n6 κ) n6 = l3) ∧ fr (T3f q j1 j2 j3 l1 l2 l3 n1 n4 n6 κ) q j1 = some n1 ∧ fr (T3f q j1 j2 j3 l1 l2 l3 n1 n4 n6 κ) q j2 = some n4 ∧ fr (T3f q j1 j2 j3 l1 l2 l3 n1 n4 n6 κ) q j3 = some n6 ∧ fi (T3f q j1 j2 j3 l1 l2 l3 n1 n4 n6 κ) q = fi κ q ∧ (n1 ∉ Lk κ ∧ n4 ∉ Lk κ ∧ n6 ∉ Lk κ) ∧ (n1 ≠ n4 ∧ n1 ≠ n6 ∧ n4 ≠ n6) ∧ (Zr (T3f q j1 j2 j3 l1 l2 l3 n1 n4 n6 κ) n1 ∧ Zr (T3f q j1 j2 j3 l1 l2 l3 n1 n4 n6 κ) n4 ∧ Zr (T3f q j1 j2 j3 l1 l2 l3 n1 n4 n6 κ) n6) := by
  have a4 : ¬ (n4 ∈ Lk κ ∨ n4 = n1) := fun z => h4 (show n4 ∈ Lk κ ++ [n1] from in_ap.mpr z)
  have a6 : ¬ ((n6 ∈ Lk κ ∨ n6 = n1) ∨ n6 = n4) := fun z => h6 (show n6 ∈ (Lk κ ++ [n1]) ++ [n4] from in_ap.mpr (z.imp (fun y => in_ap.mpr y) id))
  have q1 : ¬ q = n1 := fun z => h1 (z ▸ mq)
  have q4 : ¬ q = n4 := fun z => a4 (Or.inl (z ▸ mq))
  have q6 : ¬ q = n6 := fun z => a6 (Or.inl (Or.inl (z ▸ mq)))
  have d1 : ¬ n1 = n4 := fun z => a4 (Or.inr z.symm)
  have d2 : ¬ n1 = n6 := fun z => a6 (Or.inl (Or.inr z.symm))
  have d3 : ¬ n4 = n6 := fun z => a6 (Or.inr z.symm)
  unfold T3f
  refine ⟨(((((Xb.new h1 20 _).trans (Xb.rf (B := fun a => a = q) _ rfl j1 _)).trans (Xb.new h4 20 _)).trans (Xb.rf (B := fun a => a = q) _ rfl j2 _)).trans (Xb.new h6 20 _)).trans (Xb.rf (B := fun a => a = q) _ rfl j3 _), ⟨?_, ?_⟩, ⟨?_, ?_⟩, ⟨?_, ?_⟩, ?_, ?_, ?_, ?_, ⟨h1, fun z => a4 (Or.inl z), fun z => a6 (Or.inl (Or.inl z))⟩, ⟨d1, d2, d3⟩, ⟨?_, ?_⟩, ⟨?_, ?_⟩, ⟨?_, ?_⟩⟩
  · rw [isK_fr, isK_nwE d2, isK_fr, isK_nwE d1, isK_fr, isK_nwS]
  · rw [ln_fr, ln_nw, if_neg d2, ln_fr, ln_nw, if_neg d1, ln_fr, ln_nw, if_pos rfl]
  · rw [isK_fr, isK_nwE d3, isK_fr, isK_nwS]
  · rw [ln_fr, ln_nw, if_neg d3, ln_fr, ln_nw, if_pos rfl]
  · rw [isK_fr, isK_nwS]
  · rw [ln_fr, ln_nw, if_pos rfl]
  · rw [fr_fr, if_neg (fun z => d13 z.2), fr_nw, if_neg q6, fr_fr, if_neg (fun z => d12 z.2), fr_nw, if_neg q4, fr_fr, if_pos ⟨rfl, rfl⟩]
  · rw [fr_fr, if_neg (fun z => d23 z.2), fr_nw, if_neg q6, fr_fr, if_pos ⟨rfl, rfl⟩]
  · rw [fr_fr, if_pos ⟨rfl, rfl⟩]
  · rw [fi_fr, fi_nw, if_neg q6, fi_fr, fi_nw, if_neg q4, fi_fr, fi_nw, if_neg q1]
  · rw [fi_fr, fi_nw, if_neg d2, fi_fr, fi_nw, if_neg d1, fi_fr, fi_nw, if_pos rfl]
  · rw [ai_fr, ai_nw, if_neg d2, ai_fr, ai_nw, if_neg d1, ai_fr, ai_nw, if_pos rfl]
  · rw [fi_fr, fi_nw, if_neg d3, fi_fr, fi_nw, if_pos rfl]
  · rw [ai_fr, ai_nw, if_neg d3, ai_fr, ai_nw, if_pos rfl]
  · rw [fi_fr, fi_nw, if_pos rfl]
  · rw [ai_fr, ai_nw, if_pos rfl]
theorem w_bookI (N : Nat) {κ : Cz} {q : Nat} {post : Cz → Prop} (hq : isK κ q 0 = true) (h : ∀ (κ1 : Cz) (Q : Nat → Nat), Q 0 = q → sBk κ1 Q 0 → sSt κ1 Q 4 → Xb (fun a => a = q) κ κ1 → (∀ i, 1 ≤ i → i < 8 → Q i ∉ Lk κ) → In1 Q 8 → fi κ1 q = fi κ q → (∀ i, 1 ≤ i → i < 8 → fi κ1 (Q i) = (fun _ => 0) ∧ (i ≠ 4 → ai κ1 (Q i) = (fun _ => 0))) → post κ1) : w_Book_init N q κ post := by
  simp only [w_Book_init, wlt]
  intro n1 h1
  refine ⟨by rw [isK_nwE (fun z : q = n1 => h1 (z ▸ isK_m hq))]; exact hq, ?_⟩
  intro n4 h4 n6 h6
  obtain ⟨x, ⟨k1, e1⟩, ⟨k4, e4⟩, ⟨k6, e6⟩, r1, r4, r6, hf, ⟨u1, u4, u6⟩, ⟨d1, d2, d3⟩, z1, z4, z6⟩ := T3 (j1 := 4) (j2 := 5) (j3 := 6) (l1 := (10 : Int32).toNatClampNeg) (l2 := (12 : Int32).toNatClampNeg) (l3 := (12 : Int32).toNatClampNeg) (isK_m hq) h1 h4 h6 (by decide) (by decide) (by decide)
  show wnw (T3f q 4 5 6 (10 : Int32).toNatClampNeg (12 : Int32).toNatClampNeg (12 : Int32).toNatClampNeg n1 n4 n6 κ) (fun n8 => w_State_init N n8 (nw n8 8 0 (T3f q 4 5 6 (10 : Int32).toNatClampNeg (12 : Int32).toNatClampNeg (12 : Int32).toNatClampNeg n1 n4 n6 κ)) (fun κ9 => wck (isK κ9 q 0) (post (sfr q 7 (some n8) κ9))))
  generalize hk7 : T3f q 4 5 6 (10 : Int32).toNatClampNeg (12 : Int32).toNatClampNeg (12 : Int32).toNatClampNeg n1 n4 n6 κ = κ7 at x k1 e1 k4 e4 k6 e6 r1 r4 r6 hf z1 z4 z6 ⊢
  have hq7 : isK κ7 q 0 = true := x.isk hq
  intro n8 h8
  refine w_stateI N (isK_nwS n8 8 0 κ7) (fun κ9 QS s0 sst xs us is fs zs => ?_)
  have x9 : Xb (fun a => a = n8) κ7 κ9 := (Xb.new h8 8 0).trans xs
  have nq8 : ¬ q = n8 := fun z => h8 (z ▸ isK_m hq7)
  have n18 : ¬ n1 = n8 := fun z => h8 (z ▸ isK_m k1)
  have n48 : ¬ n4 = n8 := fun z => h8 (z ▸ isK_m k4)
  have n68 : ¬ n6 = n8 := fun z => h8 (z ▸ isK_m k6)
  have us7 : ∀ i, i < 4 → QS i ∉ Lk κ7 := by
    intro i hi
    by_cases z : i = 0
    · rw [z, s0]; exact h8
    · exact fun y => us i (by omega) hi (in_nw.mpr (Or.inl y))
  have hfr := x9.frr (isK_m hq7) nq8
  have hfi9 : fi κ9 q = fi κ7 q := ((x9 q (isK_m hq7)).2.2.2 nq8).1
  refine ⟨x9.isk hq7, ?_⟩
  have xf : Xb (fun a => a = q) κ (sfr q 7 (some n8) κ9) := by
    refine Xb.trans ?_ (Xb.rf (B := fun a => a = q) _ rfl 7 _)
    refine x.trans (x9.mono (fun a ha hb => ?_))
    exact absurd ha (hb ▸ h8)
  have xr : Xb (fun a => a = q) κ9 (sfr q 7 (some n8) κ9) := Xb.rf (B := fun a => a = q) _ rfl 7 _
  have nqS : ∀ i, i < 4 → ¬ QS i = q := fun i hi z => us7 i hi (z ▸ isK_m hq7)
  refine h _ (fun i => if i = 0 then q else if i = 1 then n1 else if i = 2 then n4 else if i = 3 then n6 else QS (i - 4)) rfl ?_ ?_ xf ?_ ?_ ?_ ?_
  · refine ⟨xf.isk hq, ?_, ?_, ?_, ?_, ?_, ?_, ?_, ?_, ?_, ?_⟩
    · show fr _ q 4 = some n1
      rw [fr_fr, if_neg (by simp), hfr]; exact r1
    · show fr _ q 5 = some n4
      rw [fr_fr, if_neg (by simp), hfr]; exact r4
    · show fr _ q 6 = some n6
      rw [fr_fr, if_neg (by simp), hfr]; exact r6
    · show fr _ q 7 = some (QS 0)
      rw [fr_fr, if_pos ⟨rfl, rfl⟩, s0]
    · exact xr.isk (x9.isk k1)
    · show ln κ9 n1 = 10
      rw [x9.lnn (isK_m k1)]; exact e1
    · exact xr.isk (x9.isk k4)
    · show ln κ9 n4 = 12
      rw [x9.lnn (isK_m k4)]; exact e4
    · exact xr.isk (x9.isk k6)
    · show ln κ9 n6 = 12
      rw [x9.lnn (isK_m k6)]; exact e6
  · exact (sst.xb xr (fun z => nqS 0 (by omega) z)).nm (fun i hi => by
      show (if 4 + i = 0 then q else if 4 + i = 1 then n1 else if 4 + i = 2 then n4 else if 4 + i = 3 then n6 else QS (4 + i - 4)) = QS (0 + i)
      rw [if_neg (by omega), if_neg (by omega), if_neg (by omega), if_neg (by omega), Nat.add_sub_cancel_left, Nat.zero_add])
  · intro i i1 i2
    match i, i1, i2 with
    | 1, _, _ => exact u1
    | 2, _, _ => exact u4
    | 3, _, _ => exact u6
    | i + 4, _, i2 =>
      show (if i + 4 = 0 then q else if i + 4 = 1 then n1 else if i + 4 = 2 then n4 else if i + 4 = 3 then n6 else QS (i + 4 - 4)) ∉ Lk κ
      rw [if_neg (by omega), if_neg (by omega), if_neg (by omega), if_neg (by omega), Nat.add_sub_cancel]
      exact fun z => us7 i (by omega) ((x _ z).1)
  · have lo : ∀ i, i < 4 → (if i = 0 then q else if i = 1 then n1 else if i = 2 then n4 else if i = 3 then n6 else QS (i - 4)) ∈ Lk κ7 := by
      intro i hi
      match i, hi with
      | 0, _ => exact isK_m hq7
      | 1, _ => exact isK_m k1
      | 2, _ => exact isK_m k4
      | 3, _ => exact isK_m k6
    have hi4 : ∀ i, 4 ≤ i → (if i = 0 then q else if i = 1 then n1 else if i = 2 then n4 else if i = 3 then n6 else QS (i - 4)) = QS (i - 4) := by
      intro i hi
      rw [if_neg (by omega), if_neg (by omega), if_neg (by omega), if_neg (by omega)]
    intro i j hi hj e
    by_cases a : i < 4
    · by_cases b : j < 4
      · have q1 : ¬ q = n1 := fun z => u1 (z ▸ isK_m hq)
        have q4 : ¬ q = n4 := fun z => u4 (z ▸ isK_m hq)
        have q6 : ¬ q = n6 := fun z => u6 (z ▸ isK_m hq)
        match i, a, j, b with
        | 0, _, 0, _ => rfl
        | 0, _, 1, _ => exact absurd e q1
        | 0, _, 2, _ => exact absurd e q4
        | 0, _, 3, _ => exact absurd e q6
        | 1, _, 0, _ => exact absurd e.symm q1
        | 1, _, 1, _ => rfl
        | 1, _, 2, _ => exact absurd e d1
        | 1, _, 3, _ => exact absurd e d2
        | 2, _, 0, _ => exact absurd e.symm q4
        | 2, _, 1, _ => exact absurd e.symm d1
        | 2, _, 2, _ => rfl
        | 2, _, 3, _ => exact absurd e d3
        | 3, _, 0, _ => exact absurd e.symm q6
        | 3, _, 1, _ => exact absurd e.symm d2
        | 3, _, 2, _ => exact absurd e.symm d3
        | 3, _, 3, _ => rfl
      · have l1 := lo i a
        have e' := e
        simp only [hi4 j (by omega)] at e'
        rw [e'] at l1
        exact absurd l1 (us7 (j - 4) (by omega))
    · by_cases b : j < 4
      · have l1 := lo j b
        have e' := e
        simp only [hi4 i (by omega)] at e'
        rw [← e'] at l1
        exact absurd l1 (us7 (i - 4) (by omega))
      · have e' := e
        simp only [hi4 i (by omega), hi4 j (by omega)] at e'
        have := is (i - 4) (j - 4) (by omega) (by omega) e'
        omega
  · show fi κ9 q = fi κ q
    rw [hfi9]; exact hf
  · intro i i1 i2
    match i, i1, i2 with
    | 1, _, _ => exact ⟨(z1.xb x9 (isK_m k1) n18).1, fun _ => (z1.xb x9 (isK_m k1) n18).2⟩
    | 2, _, _ => exact ⟨(z4.xb x9 (isK_m k4) n48).1, fun _ => (z4.xb x9 (isK_m k4) n48).2⟩
    | 3, _, _ => exact ⟨(z6.xb x9 (isK_m k6) n68).1, fun _ => (z6.xb x9 (isK_m k6) n68).2⟩
    | i + 4, _, i2 =>
      show fi (sfr q 7 (some n8) κ9) (if i + 4 = 0 then q else if i + 4 = 1 then n1 else if i + 4 = 2 then n4 else if i + 4 = 3 then n6 else QS (i + 4 - 4)) = _ ∧ (_ → ai (sfr q 7 (some n8) κ9) (if i + 4 = 0 then q else if i + 4 = 1 then n1 else if i + 4 = 2 then n4 else if i + 4 = 3 then n6 else QS (i + 4 - 4)) = _)
      rw [if_neg (by omega), if_neg (by omega), if_neg (by omega), if_neg (by omega), Nat.add_sub_cancel]
      by_cases y : i = 0
      · subst y
        rw [s0]
        exact ⟨by rw [fi_fr, fs, fi_nw, if_pos rfl], fun z => absurd rfl z⟩
      · exact ⟨(zs i (by omega) (by omega)).1, fun _ => (zs i (by omega) (by omega)).2⟩
