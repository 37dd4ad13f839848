/-! cells that are made: State, Book, Notes, World -/
theorem fr_nw (a k n : Nat) (κ : Cz) (b : Nat) : fr (nw a k n κ) b = if b = a then (fun _ => none) else fr κ b := rfl
theorem fi_nw (a k n : Nat) (κ : Cz) (b : Nat) : fi (nw a k n κ) b = if b = a then (fun _ => 0) else fi κ b := rfl
theorem ai_nw (a k n : Nat) (κ : Cz) (b : Nat) : ai (nw a k n κ) b = if b = a then (fun _ => 0) else ai κ b := rfl
theorem al_nw (a k n : Nat) (κ : Cz) (b : Nat) : al (nw a k n κ) b = if b = a then (fun _ => 0) else al κ b := rfl
theorem aq_nw (a k n : Nat) (κ : Cz) (b : Nat) : aq (nw a k n κ) b = if b = a then (fun _ => none) else aq κ b := rfl
theorem ln_nw (a k n : Nat) (κ : Cz) (b : Nat) : ln (nw a k n κ) b = if b = a then n else ln κ b := rfl
theorem kd_nw (a k n : Nat) (κ : Cz) (b : Nat) : kd (nw a k n κ) b = if b = a then k else kd κ b := rfl
theorem Lk_nw (a k n : Nat) (κ : Cz) : Lk (nw a k n κ) = Lk κ ++ [a] := rfl
theorem in_nw {a k n b : Nat} {κ : Cz} : b ∈ Lk (nw a k n κ) ↔ b ∈ Lk κ ∨ b = a := by
  rw [Lk_nw, List.mem_append, List.mem_singleton]
theorem in_ap {b a : Nat} {L : List Nat} : b ∈ L ++ [a] ↔ b ∈ L ∨ b = a := by
  rw [List.mem_append, List.mem_singleton]
theorem isK_nwE {a k n b c : Nat} {κ : Cz} (h : ¬ b = a) : isK (nw a k n κ) b c = isK κ b c := by
  unfold isK
  rw [kd_nw, if_neg h]
  congr 1
  rw [in_nw]
  simp [h]
theorem isK_nwS (a k n : Nat) (κ : Cz) : isK (nw a k n κ) a k = true := isK_me rfl
/-- more cells; of the old ones only those in B change, and keep kind and length -/
def Xb (B : Nat → Prop) (κ κ1 : Cz) : Prop := ∀ a, a ∈ Lk κ → a ∈ Lk κ1 ∧ kd κ1 a = kd κ a ∧ ln κ1 a = ln κ a ∧ (¬ B a → fi κ1 a = fi κ a ∧ fr κ1 a = fr κ a ∧ ai κ1 a = ai κ a ∧ al κ1 a = al κ a ∧ aq κ1 a = aq κ a)
theorem Xb.refl (B : Nat → Prop) (κ : Cz) : Xb B κ κ := fun a h => ⟨h, rfl, rfl, fun _ => ⟨rfl, rfl, rfl, rfl, rfl⟩⟩
theorem Xb.trans {B : Nat → Prop} {κ κ1 κ2 : Cz} (h : Xb B κ κ1) (g : Xb B κ1 κ2) : Xb B κ κ2 := by
  intro a ha
  obtain ⟨h1, h2, h3, h4⟩ := h a ha
  obtain ⟨g1, g2, g3, g4⟩ := g a h1
  refine ⟨g1, g2.trans h2, g3.trans h3, fun nb => ?_⟩
  obtain ⟨p1, p2, p3, p4, p5⟩ := h4 nb
  obtain ⟨q1, q2, q3, q4, q5⟩ := g4 nb
  exact ⟨q1.trans p1, q2.trans p2, q3.trans p3, q4.trans p4, q5.trans p5⟩
theorem Xb.mono {B B1 : Nat → Prop} {κ κ1 : Cz} (h : Xb B κ κ1) (m : ∀ a, a ∈ Lk κ → B a → B1 a) : Xb B1 κ κ1 := fun a ha => ⟨(h a ha).1, (h a ha).2.1, (h a ha).2.2.1, fun nb => (h a ha).2.2.2 (fun z => nb (m a ha z))⟩
theorem Xb.new {B : Nat → Prop} {κ : Cz} {q : Nat} (hq : q ∉ Lk κ) (k n : Nat) : Xb B κ (nw q k n κ) := by
  intro a ha
  have : ¬ a = q := fun z => hq (z ▸ ha)
  refine ⟨in_nw.mpr (Or.inl ha), by rw [kd_nw, if_neg this], by rw [ln_nw, if_neg this], fun _ => ⟨by rw [fi_nw, if_neg this], by rw [fr_nw, if_neg this], by rw [ai_nw, if_neg this], by rw [al_nw, if_neg this], by rw [aq_nw, if_neg this]⟩⟩
theorem Xb.rf {B : Nat → Prop} (κ : Cz) {a : Nat} (ha : B a) (j : Nat) (v : Option Nat) : Xb B κ (sfr a j v κ) := by
  intro b hb
  refine ⟨hb, rfl, rfl, fun nb => ?_⟩
  have : b ≠ a := fun z => nb (z ▸ ha)
  exact ⟨rfl, va_up_ne _ _ this, rfl, rfl, rfl⟩
theorem Xb.ri {B : Nat → Prop} (κ : Cz) {a : Nat} (ha : B a) (j : Nat) (v : Int32) : Xb B κ (sfi a j v κ) := by
  intro b hb
  refine ⟨hb, rfl, rfl, fun nb => ?_⟩
  have : b ≠ a := fun z => nb (z ▸ ha)
  exact ⟨va_up_ne _ _ this, rfl, rfl, rfl, rfl⟩
theorem Xb.ra {B : Nat → Prop} (κ : Cz) {a : Nat} (ha : B a) (f : Nat → Int32) : Xb B κ (sai a f κ) := by
  intro b hb
  refine ⟨hb, rfl, rfl, fun nb => ?_⟩
  have : b ≠ a := fun z => nb (z ▸ ha)
  exact ⟨rfl, rfl, va_up_ne _ _ this, rfl, rfl⟩
theorem Xb.rw9 {B : Nat → Prop} (κ : Cz) {a : Nat} (ha : B a) (f : Nat → Option Nat) : Xb B κ (saq a f κ) := by
  intro b hb
  refine ⟨hb, rfl, rfl, fun nb => ?_⟩
  have : b ≠ a := fun z => nb (z ▸ ha)
  exact ⟨rfl, rfl, rfl, rfl, va_up_ne _ _ this⟩
theorem Xb.isk {B : Nat → Prop} {κ κ1 : Cz} (h : Xb B κ κ1) {a k : Nat} (q : isK κ a k = true) : isK κ1 a k = true := by
  have ha := isK_m q
  exact decide_eq_true ⟨(h a ha).1, (h a ha).2.1.trans (isK_k q)⟩
theorem Xb.lnn {B : Nat → Prop} {κ κ1 : Cz} (h : Xb B κ κ1) {a : Nat} (ha : a ∈ Lk κ) : ln κ1 a = ln κ a := (h a ha).2.2.1
theorem Xb.frr {B : Nat → Prop} {κ κ1 : Cz} (h : Xb B κ κ1) {a : Nat} (ha : a ∈ Lk κ) (nb : ¬ B a) : fr κ1 a = fr κ a := ((h a ha).2.2.2 nb).2.1
theorem sSt.xb {B : Nat → Prop} {κ κ1 : Cz} {Q : Nat → Nat} {b : Nat} (s : sSt κ Q b) (h : Xb B κ κ1) (nb : ¬ B (Q b)) : sSt κ1 Q b := by
  obtain ⟨h1, h2, h3, h4, h5, h6, h7, h8, h9, h10⟩ := s
  have hf := h.frr (isK_m h1) nb
  exact ⟨h.isk h1, by rw [hf]; exact h2, by rw [hf]; exact h3, by rw [hf]; exact h4, h.isk h5, (h.lnn (isK_m h5)).trans h6, h.isk h7, (h.lnn (isK_m h7)).trans h8, h.isk h9, (h.lnn (isK_m h9)).trans h10⟩
theorem sNt.xb {B : Nat → Prop} {κ κ1 : Cz} {Q : Nat → Nat} {b : Nat} (s : sNt κ Q b) (h : Xb B κ κ1) (nb : ¬ B (Q b)) : sNt κ1 Q b := by
  obtain ⟨h1, h2, h3, h4, h5, h6, h7, h8, h9, h10⟩ := s
  have hf := h.frr (isK_m h1) nb
  exact ⟨h.isk h1, by rw [hf]; exact h2, by rw [hf]; exact h3, by rw [hf]; exact h4, h.isk h5, (h.lnn (isK_m h5)).trans h6, h.isk h7, (h.lnn (isK_m h7)).trans h8, h.isk h9, (h.lnn (isK_m h9)).trans h10⟩
theorem sBk.xb {B : Nat → Prop} {κ κ1 : Cz} {Q : Nat → Nat} {b : Nat} (s : sBk κ Q b) (h : Xb B κ κ1) (nb : ¬ B (Q b)) : sBk κ1 Q b := by
  obtain ⟨h1, h2, h3, h4, h4b, h5, h6, h7, h8, h9, h10⟩ := s
  have hf := h.frr (isK_m h1) nb
  exact ⟨h.isk h1, by rw [hf]; exact h2, by rw [hf]; exact h3, by rw [hf]; exact h4, by rw [hf]; exact h4b, h.isk h5, (h.lnn (isK_m h5)).trans h6, h.isk h7, (h.lnn (isK_m h7)).trans h8, h.isk h9, (h.lnn (isK_m h9)).trans h10⟩
/-- the same cells under other names -/
theorem sSt.nm {κ : Cz} {Q P : Nat → Nat} {b d : Nat} (s : sSt κ Q b) (e : ∀ i, i < 4 → P (d + i) = Q (b + i)) : sSt κ P d := by
  have e0 : P d = Q b := e 0 (by omega)
  simp only [sSt, e0, e 1 (by omega), e 2 (by omega), e 3 (by omega)]
  exact s
theorem sNt.nm {κ : Cz} {Q P : Nat → Nat} {b d : Nat} (s : sNt κ Q b) (e : ∀ i, i < 4 → P (d + i) = Q (b + i)) : sNt κ P d := by
  have e0 : P d = Q b := e 0 (by omega)
  simp only [sNt, e0, e 1 (by omega), e 2 (by omega), e 3 (by omega)]
  exact s
theorem sBk.nm {κ : Cz} {Q P : Nat → Nat} {b d : Nat} (s : sBk κ Q b) (e : ∀ i, i < 5 → P (d + i) = Q (b + i)) : sBk κ P d := by
  have e0 : P d = Q b := e 0 (by omega)
  simp only [sBk, e0, e 1 (by omega), e 2 (by omega), e 3 (by omega), e 4 (by omega)]
  exact s
/-- a cell that holds zeros -/
def Zr (κ : Cz) (a : Nat) : Prop := fi κ a = (fun _ => 0) ∧ ai κ a = (fun _ => 0)
theorem Zr.xb {B : Nat → Prop} {κ κ1 : Cz} {a : Nat} (z : Zr κ a) (h : Xb B κ κ1) (ha : a ∈ Lk κ) (nb : ¬ B a) : Zr κ1 a := ⟨((h a ha).2.2.2 nb).1.trans z.1, ((h a ha).2.2.2 nb).2.2.1.trans z.2⟩
/-- one to one below n -/
def In1 (Q : Nat → Nat) (n : Nat) : Prop := ∀ i j, i < n → j < n → Q i = Q j → i = j
theorem w_stateI (N : Nat) {κ : Cz} {q : Nat} {post : Cz → Prop} (hq : isK κ q 8 = true) (h : ∀ (κ1 : Cz) (Q : Nat → Nat), Q 0 = q → sSt κ1 Q 0 → Xb (fun a => a = q) κ κ1 → (∀ i, 1 ≤ i → i < 4 → Q i ∉ Lk κ) → In1 Q 4 → fi κ1 q = fi κ q → (∀ i, 1 ≤ i → i < 4 → Zr κ1 (Q i)) → post κ1) : w_State_init N q κ post := by
  simp only [w_State_init, wlt]
  intro n1 h1
  refine ⟨by rw [isK_nwE (fun z : q = n1 => h1 (z ▸ isK_m hq))]; exact hq, ?_⟩
  intro n4 h4
  intro n6 h6
  have a4 : ¬ (n4 ∈ Lk κ ∨ n4 = n1) := fun z => h4 (show n4 ∈ Lk κ ++ [n1] from in_ap.mpr z)
  have a6 : ¬ ((n6 ∈ Lk κ ∨ n6 = n1) ∨ n6 = n4) := fun z => h6 (show n6 ∈ (Lk κ ++ [n1]) ++ [n4] from in_ap.mpr (z.imp (fun y => in_ap.mpr y) id))
  have mq := isK_m hq
  have q1 : ¬ q = n1 := fun z => h1 (z ▸ mq)
  have q4 : ¬ q = n4 := fun z => a4 (Or.inl (z ▸ mq))
  have q6 : ¬ q = n6 := fun z => a6 (Or.inl (Or.inl (z ▸ mq)))
  have d1 : ¬ n1 = n4 := fun z => a4 (Or.inr z.symm)
  have d2 : ¬ n1 = n6 := fun z => a6 (Or.inl (Or.inr z.symm))
  have d3 : ¬ n4 = n6 := fun z => a6 (Or.inr z.symm)
  have x : Xb (fun a => a = q) κ (sfr q 2 (some n6) (nw n6 20 (10 : Int32).toNatClampNeg (sfr q 1 (some n4) (nw n4 20 (10 : Int32).toNatClampNeg (sfr q 0 (some n1) (nw n1 20 (10 : Int32).toNatClampNeg κ)))))) := (((((Xb.new h1 20 _).trans (Xb.rf (B := fun a => a = q) _ rfl 0 _)).trans (Xb.new h4 20 _)).trans (Xb.rf (B := fun a => a = q) _ rfl 1 _)).trans (Xb.new h6 20 _)).trans (Xb.rf (B := fun a => a = q) _ rfl 2 _)
  refine h _ (fun i => if i = 0 then q else if i = 1 then n1 else if i = 2 then n4 else n6) rfl ?_ x ?_ ?_ ?_ ?_
  · refine ⟨x.isk hq, ?_, ?_, ?_, ?_, ?_, ?_, ?_, ?_, ?_⟩
    · show fr _ q 0 = some n1
      rw [fr_fr, if_neg (by simp), fr_nw, if_neg q6, fr_fr, if_neg (by simp), fr_nw, if_neg q4, fr_fr, if_pos ⟨rfl, rfl⟩]
    · show fr _ q 1 = some n4
      rw [fr_fr, if_neg (by simp), fr_nw, if_neg q6, fr_fr, if_pos ⟨rfl, rfl⟩]
    · show fr _ q 2 = some n6
      rw [fr_fr, if_pos ⟨rfl, rfl⟩]
    · show isK _ n1 20 = true
      rw [isK_fr, isK_nwE d2, isK_fr, isK_nwE d1, isK_fr, isK_nwS]
    · show ln _ n1 = 10
      rw [ln_fr, ln_nw, if_neg d2, ln_fr, ln_nw, if_neg d1, ln_fr, ln_nw, if_pos rfl]; rfl
    · show isK _ n4 20 = true
      rw [isK_fr, isK_nwE d3, isK_fr, isK_nwS]
    · show ln _ n4 = 10
      rw [ln_fr, ln_nw, if_neg d3, ln_fr, ln_nw, if_pos rfl]; rfl
    · show isK _ n6 20 = true
      rw [isK_fr, isK_nwS]
    · show ln _ n6 = 10
      rw [ln_fr, ln_nw, if_pos rfl]; rfl
  · intro i i1 i2
    match i, i1, i2 with
    | 1, _, _ => exact h1
    | 2, _, _ => exact fun z => a4 (Or.inl z)
    | 3, _, _ => exact fun z => a6 (Or.inl (Or.inl z))
  · intro i j hi hj e
    match i, hi, j, hj with
    | 0, _, 0, _ => rfl
    | 0, _, 1, _ => exact absurd e q1
    | 0, _, 2, _ => exact absurd e q4
    | 0, _, 3, _ => exact absurd e q6
    | 1, _, 0, _ => exact absurd e.symm q1
    | 1, _, 1, _ => rfl
    | 1, _, 2, _ => exact absurd e d1
    | 1, _, 3, _ => exact absurd e d2
    | 2, _, 0, _ => exact absurd e.symm q4
    | 2, _, 1, _ => exact absurd e.symm d1
    | 2, _, 2, _ => rfl
    | 2, _, 3, _ => exact absurd e d3
    | 3, _, 0, _ => exact absurd e.symm q6
    | 3, _, 1, _ => exact absurd e.symm d2
    | 3, _, 2, _ => exact absurd e.symm d3
    | 3, _, 3, _ => rfl
  · rw [fi_fr, fi_nw, if_neg q6, fi_fr, fi_nw, if_neg q4, fi_fr, fi_nw, if_neg q1]
  · intro i i1 i2
    match i, i1, i2 with
    | 1, _, _ =>
      show Zr _ n1
      exact ⟨by rw [fi_fr, fi_nw, if_neg d2, fi_fr, fi_nw, if_neg d1, fi_fr, fi_nw, if_pos rfl], by rw [ai_fr, ai_nw, if_neg d2, ai_fr, ai_nw, if_neg d1, ai_fr, ai_nw, if_pos rfl]⟩
    | 2, _, _ =>
      show Zr _ n4
      exact ⟨by rw [fi_fr, fi_nw, if_neg d3, fi_fr, fi_nw, if_pos rfl], by rw [ai_fr, ai_nw, if_neg d3, ai_fr, ai_nw, if_pos rfl]⟩
    | 3, _, _ =>
      show Zr _ n6
      exact ⟨by rw [fi_fr, fi_nw, if_pos rfl], by rw [ai_fr, ai_nw, if_pos rfl]⟩
theorem w_notesI (N : Nat) {κ : Cz} {q : Nat} {post : Cz → Prop} (hq : isK κ q 3 = true) (h : ∀ (κ1 : Cz) (Q : Nat → Nat), Q 0 = q → sNt κ1 Q 0 → Xb (fun a => a = q) κ κ1 → (∀ i, 1 ≤ i → i < 4 → Q i ∉ Lk κ) → In1 Q 4 → fi κ1 q = fi κ q → (∀ i, 1 ≤ i → i < 4 → Zr κ1 (Q i)) → post κ1) : w_Notes_init N q κ post := by
  simp only [w_Notes_init, wlt]
  intro n1 h1
  refine ⟨by rw [isK_nwE (fun z : q = n1 => h1 (z ▸ isK_m hq))]; exact hq, ?_⟩
  intro n4 h4
  intro n6 h6
  have a4 : ¬ (n4 ∈ Lk κ ∨ n4 = n1) := fun z => h4 (show n4 ∈ Lk κ ++ [n1] from in_ap.mpr z)
  have a6 : ¬ ((n6 ∈ Lk κ ∨ n6 = n1) ∨ n6 = n4) := fun z => h6 (show n6 ∈ (Lk κ ++ [n1]) ++ [n4] from in_ap.mpr (z.imp (fun y => in_ap.mpr y) id))
  have mq := isK_m hq
  have q1 : ¬ q = n1 := fun z => h1 (z ▸ mq)
  have q4 : ¬ q = n4 := fun z => a4 (Or.inl (z ▸ mq))
  have q6 : ¬ q = n6 := fun z => a6 (Or.inl (Or.inl (z ▸ mq)))
  have d1 : ¬ n1 = n4 := fun z => a4 (Or.inr z.symm)
  have d2 : ¬ n1 = n6 := fun z => a6 (Or.inl (Or.inr z.symm))
  have d3 : ¬ n4 = n6 := fun z => a6 (Or.inr z.symm)
  have x : Xb (fun a => a = q) κ (sfr q 3 (some n6) (nw n6 20 (10 : Int32).toNatClampNeg (sfr q 2 (some n4) (nw n4 20 (10 : Int32).toNatClampNeg (sfr q 1 (some n1) (nw n1 20 (10 : Int32).toNatClampNeg κ)))))) := (((((Xb.new h1 20 _).trans (Xb.rf (B := fun a => a = q) _ rfl 1 _)).trans (Xb.new h4 20 _)).trans (Xb.rf (B := fun a => a = q) _ rfl 2 _)).trans (Xb.new h6 20 _)).trans (Xb.rf (B := fun a => a = q) _ rfl 3 _)
  refine h _ (fun i => if i = 0 then q else if i = 1 then n1 else if i = 2 then n4 else n6) rfl ?_ x ?_ ?_ ?_ ?_
  · refine ⟨x.isk hq, ?_, ?_, ?_, ?_, ?_, ?_, ?_, ?_, ?_⟩
    · show fr _ q 1 = some n1
      rw [fr_fr, if_neg (by simp), fr_nw, if_neg q6, fr_fr, if_neg (by simp), fr_nw, if_neg q4, fr_fr, if_pos ⟨rfl, rfl⟩]
    · show fr _ q 2 = some n4
      rw [fr_fr, if_neg (by simp), fr_nw, if_neg q6, fr_fr, if_pos ⟨rfl, rfl⟩]
    · show fr _ q 3 = some n6
      rw [fr_fr, if_pos ⟨rfl, rfl⟩]
    · show isK _ n1 20 = true
      rw [isK_fr, isK_nwE d2, isK_fr, isK_nwE d1, isK_fr, isK_nwS]
    · show ln _ n1 = 10
      rw [ln_fr, ln_nw, if_neg d2, ln_fr, ln_nw, if_neg d1, ln_fr, ln_nw, if_pos rfl]; rfl
    · show isK _ n4 20 = true
      rw [isK_fr, isK_nwE d3, isK_fr, isK_nwS]
    · show ln _ n4 = 10
      rw [ln_fr, ln_nw, if_neg d3, ln_fr, ln_nw, if_pos rfl]; rfl
    · show isK _ n6 20 = true
      rw [isK_fr, isK_nwS]
    · show ln _ n6 = 10
      rw [ln_fr, ln_nw, if_pos rfl]; rfl
  · intro i i1 i2
    match i, i1, i2 with
    | 1, _, _ => exact h1
    | 2, _, _ => exact fun z => a4 (Or.inl z)
    | 3, _, _ => exact fun z => a6 (Or.inl (Or.inl z))
  · intro i j hi hj e
    match i, hi, j, hj with
    | 0, _, 0, _ => rfl
    | 0, _, 1, _ => exact absurd e q1
    | 0, _, 2, _ => exact absurd e q4
    | 0, _, 3, _ => exact absurd e q6
    | 1, _, 0, _ => exact absurd e.symm q1
    | 1, _, 1, _ => rfl
    | 1, _, 2, _ => exact absurd e d1
    | 1, _, 3, _ => exact absurd e d2
    | 2, _, 0, _ => exact absurd e.symm q4
    | 2, _, 1, _ => exact absurd e.symm d1
    | 2, _, 2, _ => rfl
    | 2, _, 3, _ => exact absurd e d3
    | 3, _, 0, _ => exact absurd e.symm q6
    | 3, _, 1, _ => exact absurd e.symm d2
    | 3, _, 2, _ => exact absurd e.symm d3
    | 3, _, 3, _ => rfl
  · rw [fi_fr, fi_nw, if_neg q6, fi_fr, fi_nw, if_neg q4, fi_fr, fi_nw, if_neg q1]
  · intro i i1 i2
    match i, i1, i2 with
    | 1, _, _ =>
      show Zr _ n1
      exact ⟨by rw [fi_fr, fi_nw, if_neg d2, fi_fr, fi_nw, if_neg d1, fi_fr, fi_nw, if_pos rfl], by rw [ai_fr, ai_nw, if_neg d2, ai_fr, ai_nw, if_neg d1, ai_fr, ai_nw, if_pos rfl]⟩
    | 2, _, _ =>
      show Zr _ n4
      exact ⟨by rw [fi_fr, fi_nw, if_neg d3, fi_fr, fi_nw, if_pos rfl], by rw [ai_fr, ai_nw, if_neg d3, ai_fr, ai_nw, if_pos rfl]⟩
    | 3, _, _ =>
      show Zr _ n6
      exact ⟨by rw [fi_fr, fi_nw, if_pos rfl], by rw [ai_fr, ai_nw, if_pos rfl]⟩
/-- names for the new cells of a role's row: the old ones keep theirs -/
theorem mx_of (L : List Nat) : ∃ M, ∀ a, a ∈ L → a < M := by
  induction L with
  | nil => exact ⟨0, fun a h => absurd h (by simp)⟩
  | cons x L ih =>
    obtain ⟨M, h⟩ := ih
    refine ⟨M + x + 1, fun a ha => ?_⟩
    rcases List.mem_cons.mp ha with z | z
    · omega
    · have := h a z; omega
theorem newA {A : Nat → Nat} (hA : Inj A) (L : List Nat) (b n : Nat) (Q : Nat → Nat) (hQ : In1 Q n) (hL : ∀ i, i < n → Q i ∉ L) : ∃ P : Nat → Nat, Inj P ∧ (∀ i, i < n → P (b + i) = Q i) ∧ ∀ r, (r < b ∨ b + n ≤ r) → A r ∈ L → P r = A r := by
  obtain ⟨M, hM⟩ := mx_of (L ++ (List.range n).map Q)
  have m1 : ∀ a, a ∈ L → a < M := fun a h => hM a (List.mem_append_left _ h)
  have m2 : ∀ i, i < n → Q i < M := fun i h => hM _ (List.mem_append_right _ (List.mem_map.mpr ⟨i, List.mem_range.mpr h, rfl⟩))
  refine ⟨fun r => if b ≤ r ∧ r < b + n then Q (r - b) else if A r ∈ L then A r else M + r, ?_, ?_, ?_⟩
  · intro i j
    refine ⟨fun e => ?_, fun e => by rw [e]⟩
    by_cases hi : b ≤ i ∧ i < b + n
    · by_cases hj : b ≤ j ∧ j < b + n
      · simp only [if_pos hi, if_pos hj] at e
        have := hQ _ _ (by omega) (by omega) e
        omega
      · simp only [if_pos hi, if_neg hj] at e
        have h2 := m2 (i - b) (by omega)
        have h3 := hL (i - b) (by omega)
        by_cases hz : A j ∈ L
        · rw [if_pos hz] at e
          exact absurd (e ▸ hz) h3
        · rw [if_neg hz] at e
          omega
    · by_cases hj : b ≤ j ∧ j < b + n
      · simp only [if_neg hi, if_pos hj] at e
        have h2 := m2 (j - b) (by omega)
        have h3 := hL (j - b) (by omega)
        by_cases hz : A i ∈ L
        · rw [if_pos hz] at e
          exact absurd (e ▸ hz) h3
        · rw [if_neg hz] at e
          omega
      · simp only [if_neg hi, if_neg hj] at e
        by_cases hy : A i ∈ L
        · by_cases hz : A j ∈ L
          · rw [if_pos hy, if_pos hz] at e
            exact (hA i j).mp e
          · rw [if_pos hy, if_neg hz] at e
            have := m1 _ hy
            omega
        · by_cases hz : A j ∈ L
          · rw [if_neg hy, if_pos hz] at e
            have := m1 _ hz
            omega
          · rw [if_neg hy, if_neg hz] at e
            omega
  · intro i hi
    show (if b ≤ b + i ∧ b + i < b + n then Q (b + i - b) else _) = Q i
    rw [if_pos ⟨by omega, by omega⟩, Nat.add_sub_cancel_left]
  · intro r hr ha
    show (if b ≤ r ∧ r < b + n then Q (r - b) else if A r ∈ L then A r else M + r) = A r
    rw [if_neg (by omega), if_pos ha]
