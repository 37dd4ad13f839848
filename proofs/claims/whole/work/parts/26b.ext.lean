/-! which roles stand in the heap; more cells, other names: the relation holds on -/
theorem Sh.mem {κ : Cz} {A : Nat → Nat} (h : Sh κ A) : ∀ r, r ≤ 72 → A r ∈ Lk κ := by
  intro r hr
  match r, hr with
  | 0, _ => exact isK_m (h.top.1)
  | 1, _ => exact isK_m (h.top.2.2.2.2.2.2.2.2.2.2.2.2.2.2.2.1)
  | 2, _ => exact isK_m (h.tk.1)
  | 3, _ => exact isK_m (h.tk.2.2.2.2.1)
  | 4, _ => exact isK_m (h.tk.2.2.2.2.2.2.1)
  | 5, _ => exact isK_m (h.tk.2.2.2.2.2.2.2.2.1)
  | 6, _ => exact isK_m (h.bR.1)
  | 7, _ => exact isK_m (h.bR.2.2.2.1)
  | 8, _ => exact isK_m (h.bR.2.2.2.2.2.2.2.2.1)
  | 9, _ => exact isK_m (h.bR.2.2.2.2.2.2.2.2.2.2.1)
  | 10, _ => exact isK_m (h.bR.2.2.2.2.2.2.2.2.2.2.2.2.1)
  | 11, _ => exact isK_m (h.bR.2.2.2.2.2.2.2.2.2.2.2.2.2.2.1)
  | 12, _ => exact isK_m (h.bR.2.2.2.2.2.2.2.2.2.2.2.2.2.2.2.2.2.2.1)
  | 13, _ => exact isK_m (h.bR.2.2.2.2.2.2.2.2.2.2.2.2.2.2.2.2.2.2.2.2.1)
  | 14, _ => exact isK_m (h.bR.2.2.2.2.2.2.2.2.2.2.2.2.2.2.2.2.2.2.2.2.2.2.1)
  | 15, _ => exact isK_m (h.rR.1)
  | 16, _ => exact isK_m (h.rR.2.2.2.2.2.1)
  | 17, _ => exact isK_m (h.rR.2.2.2.2.2.2.2.1)
  | 18, _ => exact isK_m (h.rR.2.2.2.2.2.2.2.2.2.1)
  | 19, _ => exact isK_m (h.top.2.2.2.2.2.2.2.2.2.2.2.2.2.2.2.2.2.2.2.2.2.2.2.1)
  | 20, _ => exact isK_m (h.w20.1)
  | 21, _ => exact isK_m (h.w20.2.2.2.2.1)
  | 22, _ => exact isK_m (h.w20.2.2.2.2.2.2.2.2.2.1)
  | 23, _ => exact isK_m (h.w20.2.2.2.2.2.2.2.2.2.2.2.1)
  | 24, _ => exact isK_m (h.w20.2.2.2.2.2.2.2.2.2.2.2.2.2.1)
  | 25, _ => exact isK_m (h.w20.2.2.2.2.2.2.2.2.2.2.2.2.2.2.2.1)
  | 26, _ => exact isK_m (h.w20.2.2.2.2.2.2.2.2.2.2.2.2.2.2.2.2.2.2.2.1)
  | 27, _ => exact isK_m (h.w20.2.2.2.2.2.2.2.2.2.2.2.2.2.2.2.2.2.2.2.2.2.1)
  | 28, _ => exact isK_m (h.w20.2.2.2.2.2.2.2.2.2.2.2.2.2.2.2.2.2.2.2.2.2.2.2.1)
  | 29, _ => exact isK_m (h.w20.2.2.2.2.2.2.2.2.2.2.2.2.2.2.2.2.2.2.2.2.2.2.2.2.2.1)
  | 30, _ => exact isK_m (h.w20.2.2.2.2.2.2.2.2.2.2.2.2.2.2.2.2.2.2.2.2.2.2.2.2.2.2.2.2.2.1)
  | 31, _ => exact isK_m (h.w20.2.2.2.2.2.2.2.2.2.2.2.2.2.2.2.2.2.2.2.2.2.2.2.2.2.2.2.2.2.2.2.1)
  | 32, _ => exact isK_m (h.w20.2.2.2.2.2.2.2.2.2.2.2.2.2.2.2.2.2.2.2.2.2.2.2.2.2.2.2.2.2.2.2.2.2.1)
  | 33, _ => exact isK_m (h.w20.2.2.2.2.2.2.2.2.2.2.2.2.2.2.2.2.2.2.2.2.2.2.2.2.2.2.2.2.2.2.2.2.2.2.2.1)
  | 34, _ => exact isK_m (h.w20.2.2.2.2.2.2.2.2.2.2.2.2.2.2.2.2.2.2.2.2.2.2.2.2.2.2.2.2.2.2.2.2.2.2.2.2.2.2.2.1)
  | 35, _ => exact isK_m (h.w20.2.2.2.2.2.2.2.2.2.2.2.2.2.2.2.2.2.2.2.2.2.2.2.2.2.2.2.2.2.2.2.2.2.2.2.2.2.2.2.2.2.1)
  | 36, _ => exact isK_m (h.w20.2.2.2.2.2.2.2.2.2.2.2.2.2.2.2.2.2.2.2.2.2.2.2.2.2.2.2.2.2.2.2.2.2.2.2.2.2.2.2.2.2.2.2.1)
  | 37, _ => exact isK_m (h.top.2.2.2.2.2.2.2.2.2.2.2.2.2.2.2.2.2.2.2.2.2.2.2.2.2.1)
  | 38, _ => exact isK_m (h.hi.1)
  | 39, _ => exact isK_m (h.hi.2.2.1)
  | 40, _ => exact isK_m (h.pr.1)
  | 41, _ => exact isK_m (h.pr.2.2.2.1)
  | 42, _ => exact isK_m (h.rS.1)
  | 43, _ => exact isK_m (h.rS.2.2.2.2.2.1)
  | 44, _ => exact isK_m (h.rS.2.2.2.2.2.2.2.1)
  | 45, _ => exact isK_m (h.rS.2.2.2.2.2.2.2.2.2.1)
  | 46, _ => exact isK_m (h.r5.1.1)
  | 47, _ => exact isK_m (h.r5.1.2.2.2.2.1)
  | 48, _ => exact isK_m (h.r5.1.2.2.2.2.2.2.1)
  | 49, _ => exact isK_m (h.r5.1.2.2.2.2.2.2.2.2.1)
  | 50, _ => exact isK_m (h.r5.2.1.1)
  | 51, _ => exact isK_m (h.r5.2.1.2.2.2.2.1)
  | 52, _ => exact isK_m (h.r5.2.1.2.2.2.2.2.2.1)
  | 53, _ => exact isK_m (h.r5.2.1.2.2.2.2.2.2.2.2.1)
  | 54, _ => exact isK_m (h.r5.2.2.1.1)
  | 55, _ => exact isK_m (h.r5.2.2.1.2.2.2.2.1)
  | 56, _ => exact isK_m (h.r5.2.2.1.2.2.2.2.2.2.1)
  | 57, _ => exact isK_m (h.r5.2.2.1.2.2.2.2.2.2.2.2.1)
  | 58, _ => exact isK_m (h.r5.2.2.2.1.1)
  | 59, _ => exact isK_m (h.r5.2.2.2.1.2.2.2.2.1)
  | 60, _ => exact isK_m (h.r5.2.2.2.1.2.2.2.2.2.2.1)
  | 61, _ => exact isK_m (h.r5.2.2.2.1.2.2.2.2.2.2.2.2.1)
  | 62, _ => exact isK_m (h.r5.2.2.2.2.1)
  | 63, _ => exact isK_m (h.r5.2.2.2.2.2.2.2.2.1)
  | 64, _ => exact isK_m (h.r5.2.2.2.2.2.2.2.2.2.2.1)
  | 65, _ => exact isK_m (h.r5.2.2.2.2.2.2.2.2.2.2.2.2.1)
  | 66, _ => exact isK_m (h.tr.1)
  | 67, _ => exact isK_m (h.tr.2.2.2.2.1)
  | 68, _ => exact isK_m (h.tr.2.2.2.2.2.2.1)
  | 69, _ => exact isK_m (h.tr.2.2.2.2.2.2.2.2.1)
  | 70, _ => exact isK_m (h.top.2.2.2.2.2.2.2.2.2.2.2.2.2.2.2.2.2.1)
  | 71, _ => exact isK_m (h.top.2.2.2.2.2.2.2.2.2.2.2.2.2.2.2.2.2.2.2.1)
  | 72, _ => exact isK_m (h.top.2.2.2.2.2.2.2.2.2.2.2.2.2.2.2.2.2.2.2.2.2.1)
  | r + 73, z => omega
def Us (κ : Cz) (A : Nat → Nat) (R r : Nat) : Prop := r ≤ 72 ∨ (∃ i, i < 20 ∧ aq κ (A 39) i ≠ none ∧ 100 + 4 * i ≤ r ∧ r < 100 + 4 * i + 4) ∨ (∃ k, k < 4 ∧ aq κ (A 37) k ≠ none ∧ 200 + 17 * k ≤ r ∧ r < 200 + 17 * k + 17) ∨ (∃ j, j < R ∧ 300 + 5 * j ≤ r ∧ r < 300 + 5 * j + 5)
theorem sSt.mem {κ : Cz} {A : Nat → Nat} {b : Nat} (s : sSt κ A b) : ∀ i, i < 4 → A (b + i) ∈ Lk κ := by
  intro i hi
  match i, hi with
  | 0, _ => exact isK_m s.1
  | 1, _ => exact isK_m s.2.2.2.2.1
  | 2, _ => exact isK_m s.2.2.2.2.2.2.1
  | 3, _ => exact isK_m s.2.2.2.2.2.2.2.2.1
theorem sNt.mem {κ : Cz} {A : Nat → Nat} {b : Nat} (s : sNt κ A b) : ∀ i, i < 4 → A (b + i) ∈ Lk κ := by
  intro i hi
  match i, hi with
  | 0, _ => exact isK_m s.1
  | 1, _ => exact isK_m s.2.2.2.2.1
  | 2, _ => exact isK_m s.2.2.2.2.2.2.1
  | 3, _ => exact isK_m s.2.2.2.2.2.2.2.2.1
theorem sBk.mem {κ : Cz} {A : Nat → Nat} {b : Nat} (s : sBk κ A b) : ∀ i, i < 4 → A (b + i) ∈ Lk κ := by
  intro i hi
  match i, hi with
  | 0, _ => exact isK_m s.1
  | 1, _ => exact isK_m s.2.2.2.2.2.1
  | 2, _ => exact isK_m s.2.2.2.2.2.2.2.1
  | 3, _ => exact isK_m s.2.2.2.2.2.2.2.2.2.1
theorem sWd.mem {κ : Cz} {A : Nat → Nat} {b : Nat} (s : sWd κ A b) : ∀ i, i < 17 → A (b + i) ∈ Lk κ := by
  intro i hi
  obtain ⟨s1, s2, s3, s4, s5⟩ := s
  by_cases h0 : i = 0
  · subst h0; exact isK_m s1.1
  · by_cases h1 : i < 5
    · have := sBk.mem s2 (i - 1) (by omega)
      rw [show b + 1 + (i - 1) = b + i by omega] at this
      exact this
    · by_cases h2 : i < 9
      · have := sSt.mem s3 (i - 5) (by omega)
        rw [show b + 5 + (i - 5) = b + i by omega] at this
        exact this
      · by_cases h3 : i < 13
        · have := sSt.mem s4 (i - 9) (by omega)
          rw [show b + 9 + (i - 9) = b + i by omega] at this
          exact this
        · have := sNt.mem s5 (i - 13) (by omega)
          rw [show b + 13 + (i - 13) = b + i by omega] at this
          exact this
theorem sRu.mem {κ : Cz} {A : Nat → Nat} {b nc k : Nat} (s : sRu κ A b nc k) : ∀ i, i < 5 → A (b + i) ∈ Lk κ := by
  intro i hi
  match i, hi with
  | 0, _ => exact isK_m s.1
  | 1, _ => exact isK_m s.2.2.2.2.2.1
  | 2, _ => exact isK_m s.2.2.2.2.2.2.2.1
  | 3, _ => exact isK_m s.2.2.2.2.2.2.2.2.2.1
  | 4, _ => exact isK_m s.2.2.2.2.2.2.2.2.2.2.2.1
theorem RelA.mem {A : Nat → Nat} {κ : Cz} {μ : Mz} (h : RelA A κ μ) {R : Nat} (hR6 : R ≤ 6) (hR : gi 1 μ = nI R) : ∀ r, Us κ A R r → A r ∈ Lk κ := by
  intro r hr
  rcases hr with z | ⟨i, i1, i2, i3, i4⟩ | ⟨k, i1, i2, i3, i4⟩ | ⟨j, i1, i3, i4⟩
  · exact h.sh.mem r z
  · rcases h.sh.hs i i1 with z | z
    · exact absurd z i2
    · have := sSt.mem z.2 (r - (100 + 4 * i)) (by omega)
      rw [show 100 + 4 * i + (r - (100 + 4 * i)) = r by omega] at this
      exact this
  · rcases h.sh.im k i1 with z | z
    · exact absurd z i2
    · have := sWd.mem z.2 (r - (200 + 17 * k)) (by omega)
      rw [show 200 + 17 * k + (r - (200 + 17 * k)) = r by omega] at this
      exact this
  · obtain ⟨R2, r1, r2, r3, r4⟩ := h.rl
    have e : R2 = R := (nI_eq (by omega) (by omega)).mp (r3.symm.trans hR)
    subst e
    obtain ⟨nc, kk, g', s, en, h1, -⟩ := (r4 j i1).2
    have := sRu.mem h1 (r - (300 + 5 * j)) (by omega)
    rw [show 300 + 5 * j + (r - (300 + 5 * j)) = r by omega] at this
    exact this
/-- no old cell changes -/
abbrev Xn (κ κ1 : Cz) : Prop := Xb (fun _ => False) κ κ1
theorem Xb.all {κ κ1 : Cz} (x : Xn κ κ1) {a : Nat} (ha : a ∈ Lk κ) : (∀ k, isK κ1 a k = isK κ a k) ∧ ln κ1 a = ln κ a ∧ fi κ1 a = fi κ a ∧ fr κ1 a = fr κ a ∧ ai κ1 a = ai κ a ∧ aq κ1 a = aq κ a := by
  obtain ⟨h1, h2, h3, h4⟩ := x a ha
  obtain ⟨p1, p2, p3, p4, p5⟩ := h4 (fun z => z)
  refine ⟨fun k => ?_, h3, p1, p2, p3, p5⟩
  unfold isK
  rw [h2]
  simp [h1, ha]
theorem St.xn {κ κ1 : Cz} {A P : Nat → Nat} {b : Nat} {S : Nat → Int32} (h : St κ A b S) (x : Xn κ κ1) (m : ∀ i, i < 4 → A (b + i) ∈ Lk κ) (e : ∀ i, i < 4 → P (b + i) = A (b + i)) : St κ1 P b S := by
  have e0 : P b = A b := e 0 (by omega)
  unfold St
  rw [e0, e 1 (by omega), e 2 (by omega), e 3 (by omega), (x.all (a := A b) (m 0 (by omega))).2.2.1, (x.all (m 1 (by omega))).2.2.2.2.1, (x.all (m 2 (by omega))).2.2.2.2.1, (x.all (m 3 (by omega))).2.2.2.2.1]
  exact h
theorem Nt.xn {κ κ1 : Cz} {A P : Nat → Nat} {b : Nat} {S : Nat → Int32} (h : Nt κ A b S) (x : Xn κ κ1) (m : ∀ i, i < 4 → A (b + i) ∈ Lk κ) (e : ∀ i, i < 4 → P (b + i) = A (b + i)) : Nt κ1 P b S := by
  have e0 : P b = A b := e 0 (by omega)
  unfold Nt
  rw [e0, e 1 (by omega), e 2 (by omega), e 3 (by omega), (x.all (a := A b) (m 0 (by omega))).2.2.1, (x.all (m 1 (by omega))).2.2.2.2.1, (x.all (m 2 (by omega))).2.2.2.2.1, (x.all (m 3 (by omega))).2.2.2.2.1]
  exact h
theorem Bk.xn {κ κ1 : Cz} {A P : Nat → Nat} {b : Nat} {S : Nat → Int32} (h : Bk κ A b S) (x : Xn κ κ1) (m : ∀ i, i < 4 → A (b + i) ∈ Lk κ) (e : ∀ i, i < 4 → P (b + i) = A (b + i)) : Bk κ1 P b S := by
  have e0 : P b = A b := e 0 (by omega)
  unfold Bk
  rw [e0, e 1 (by omega), e 2 (by omega), e 3 (by omega), (x.all (a := A b) (m 0 (by omega))).2.2.1, (x.all (m 1 (by omega))).2.2.2.2.1, (x.all (m 2 (by omega))).2.2.2.2.1, (x.all (m 3 (by omega))).2.2.2.2.1]
  exact h
theorem sh17 {A P : Nat → Nat} {L : List Nat} {b : Nat} (m : ∀ i, i < 17 → A (b + i) ∈ L) (e : ∀ i, i < 17 → P (b + i) = A (b + i)) (d n : Nat) (hd : d + n ≤ 17) : (∀ i, i < n → A (b + d + i) ∈ L) ∧ ∀ i, i < n → P (b + d + i) = A (b + d + i) := by
  constructor
  · intro i hi
    rw [Nat.add_assoc]
    exact m _ (by omega)
  · intro i hi
    rw [Nat.add_assoc]
    exact e _ (by omega)
theorem Wd.xn {κ κ1 : Cz} {A P : Nat → Nat} {b : Nat} {S : Nat → Int32} {f x9 : Int32} (h : Wd κ A b S f x9) (x : Xn κ κ1) (m : ∀ i, i < 17 → A (b + i) ∈ Lk κ) (e : ∀ i, i < 17 → P (b + i) = A (b + i)) : Wd κ1 P b S f x9 := by
  have e0 : P b = A b := e 0 (by omega)
  have s := sh17 m e
  obtain ⟨h1, h2, h3, h4, h5, h6⟩ := h
  refine ⟨h1.xn x (s 1 4 (by omega)).1 (s 1 4 (by omega)).2, h2.xn x (s 5 4 (by omega)).1 (s 5 4 (by omega)).2, h3.xn x (s 9 4 (by omega)).1 (s 9 4 (by omega)).2, h4.xn x (s 13 4 (by omega)).1 (s 13 4 (by omega)).2, ?_, ?_⟩
  · rw [e0, (x.all (a := A b) (m 0 (by omega))).2.2.1]; exact h5
  · rw [e0, (x.all (a := A b) (m 0 (by omega))).2.2.1]; exact h6
theorem sWd.xn {κ κ1 : Cz} {A P : Nat → Nat} {b : Nat} (h : sWd κ A b) (x : Xn κ κ1) (e : ∀ i, i < 17 → P (b + i) = A (b + i)) : sWd κ1 P b := by
  have m := sWd.mem h
  have s := sh17 m e
  have e0 : P b = A b := e 0 (by omega)
  obtain ⟨h1, h2, h3, h4, h5⟩ := h
  have a0 := x.all (a := A b) (m 0 (by omega))
  refine ⟨?_, (h2.xb x (fun z => z)).nm (s 1 5 (by omega)).2, (h3.xb x (fun z => z)).nm (s 5 4 (by omega)).2, (h4.xb x (fun z => z)).nm (s 9 4 (by omega)).2, (h5.xb x (fun z => z)).nm (s 13 4 (by omega)).2⟩
  simp only [sWo, e0, a0.1, a0.2.2.2.1, e 1 (by omega), e 9 (by omega), e 13 (by omega)]
  exact h1
theorem sRu.xn {κ κ1 : Cz} {A P : Nat → Nat} {b nc k : Nat} (h : sRu κ A b nc k) (x : Xn κ κ1) (e : ∀ i, i < 5 → P (b + i) = A (b + i)) : sRu κ1 P b nc k := by
  have m := sRu.mem h
  have e0 : P b = A b := e 0 (by omega)
  have a0 := x.all (a := A b) (m 0 (by omega))
  have a1 := x.all (m 1 (by omega))
  have a2 := x.all (m 2 (by omega))
  have a3 := x.all (m 3 (by omega))
  have a4 := x.all (m 4 (by omega))
  simp only [sRu, e0, e 1 (by omega), e 2 (by omega), e 3 (by omega), e 4 (by omega), a0.1, a0.2.2.2.1, a1.1, a1.2.1, a2.1, a2.2.1, a3.1, a3.2.1, a4.1, a4.2.1]
  exact h
theorem RuC.xn {κ κ1 : Cz} {A P : Nat → Nat} {μ : Mz} {r : Nat} (h : RuC κ A μ r) (x : Xn κ κ1) (e : ∀ i, i < 5 → P (300 + 5 * r + i) = A (300 + 5 * r + i)) : RuC κ1 P μ r := by
  obtain ⟨nc, k, g', s, en, h1, h2, h3, h4, h5, h6, h7, h8⟩ := h
  have m := sRu.mem h1
  refine ⟨nc, k, g', s, en, h1.xn x e, h2, h3, h4, ?_, h6, h7, ?_⟩
  · rw [e 1 (by omega), (x.all (m 1 (by omega))).2.2.2.2.1]; exact h5
  · rw [e 2 (by omega), (x.all (m 2 (by omega))).2.2.2.2.1, e 3 (by omega), (x.all (m 3 (by omega))).2.2.2.2.1]; exact h8
theorem Sh.xn {κ κ1 : Cz} {A P : Nat → Nat} (h : Sh κ A) (hP : Inj P) (x : Xn κ κ1) (eA : ∀ r, r ≤ 72 → P r = A r) (eH : ∀ i, i < 20 → aq κ (A 39) i ≠ none → ∀ d, d < 4 → P (100 + 4 * i + d) = A (100 + 4 * i + d)) (eI : ∀ k, k < 4 → aq κ (A 37) k ≠ none → ∀ d, d < 17 → P (200 + 17 * k + d) = A (200 + 17 * k + d)) : Sh κ1 P := by
  have m := h.mem
  have fK : ∀ r, r ≤ 72 → ∀ k, isK κ1 (A r) k = isK κ (A r) k := fun r hr => (x.all (m r hr)).1
  have fL : ∀ r, r ≤ 72 → ln κ1 (A r) = ln κ (A r) := fun r hr => (x.all (m r hr)).2.1
  have fF : ∀ r, r ≤ 72 → fr κ1 (A r) = fr κ (A r) := fun r hr => (x.all (m r hr)).2.2.2.1
  have fQ : ∀ r, r ≤ 72 → aq κ1 (A r) = aq κ (A r) := fun r hr => (x.all (m r hr)).2.2.2.2.2
  refine ⟨hP, ?_, ?_, ?_, ?_, ?_, ?_, ?_, ?_, ?_, ?_, ?_, ?_⟩
  · simp only [sTop, eA, fK, fL, fF, Nat.reduceLeDiff]; exact h.top
  · simp only [sTk, eA, fK, fL, fF, Nat.reduceLeDiff]; exact h.tk
  · simp only [sBR, eA, fK, fL, fF, Nat.reduceLeDiff]; exact h.bR
  · simp only [sRR, eA, fK, fL, fF, Nat.reduceLeDiff]; exact h.rR
  · simp only [sW20, eA, fK, fL, fF, Nat.reduceLeDiff]; exact h.w20
  · simp only [sHi, eA, fK, fL, fF, Nat.reduceLeDiff]; exact h.hi
  · simp only [sPr, eA, fK, fL, fF, Nat.reduceLeDiff]; exact h.pr
  · simp only [sRS, eA, fK, fL, fF, fQ, Nat.reduceLeDiff]; exact h.rS
  · exact ⟨(h.r5.1.xb x (fun z => z)).nm (fun i hi => eA _ (by omega)), (h.r5.2.1.xb x (fun z => z)).nm (fun i hi => eA _ (by omega)), (h.r5.2.2.1.xb x (fun z => z)).nm (fun i hi => eA _ (by omega)), (h.r5.2.2.2.1.xb x (fun z => z)).nm (fun i hi => eA _ (by omega)), (h.r5.2.2.2.2.xb x (fun z => z)).nm (fun i hi => eA _ (by omega))⟩
  · exact (sSt.xb (b := 66) h.tr x (fun z => z)).nm (fun i hi => eA _ (by omega))
  · intro i hi
    rw [eA 39 (by omega), fQ 39 (by omega)]
    rcases h.hs i hi with z | ⟨z1, z2⟩
    · exact Or.inl z
    · have ne : aq κ (A 39) i ≠ none := by rw [z1]; exact fun z => nomatch z
      exact Or.inr ⟨by rw [show P (100 + 4 * i) = A (100 + 4 * i) from eH i hi ne 0 (by omega)]; exact z1, (z2.xb x (fun z => z)).nm (fun d hd => eH i hi ne d hd)⟩
  · intro i hi
    rw [eA 37 (by omega), fQ 37 (by omega)]
    rcases h.im i hi with z | ⟨z1, z2⟩
    · exact Or.inl z
    · have ne : aq κ (A 37) i ≠ none := by rw [z1]; exact fun z => nomatch z
      exact Or.inr ⟨by rw [show P (200 + 17 * i) = A (200 + 17 * i) from eI i hi ne 0 (by omega)]; exact z1, sWd.xn z2 x (fun d hd => eI i hi ne d hd)⟩
/-- more cells, other names for those that weren't there: the relation stands -/
theorem RelA.ext {A P : Nat → Nat} {κ κ1 : Cz} {μ : Mz} (h : RelA A κ μ) {R : Nat} (hR6 : R ≤ 6) (hR : gi 1 μ = nI R) (hP : Inj P) (x : Xn κ κ1) (e : ∀ r, Us κ A R r → P r = A r) : RelA P κ1 μ := by
  have hs := h.sh
  have m := h.mem hR6 hR
  have eA : ∀ r, r ≤ 72 → P r = A r := fun r hr => e r (Or.inl hr)
  have eH : ∀ i, i < 20 → aq κ (A 39) i ≠ none → ∀ d, d < 4 → P (100 + 4 * i + d) = A (100 + 4 * i + d) := fun i hi ne d hd => e _ (Or.inr (Or.inl ⟨i, hi, ne, by omega, by omega⟩))
  have eI : ∀ k, k < 4 → aq κ (A 37) k ≠ none → ∀ d, d < 17 → P (200 + 17 * k + d) = A (200 + 17 * k + d) := fun i hi ne d hd => e _ (Or.inr (Or.inr (Or.inl ⟨i, hi, ne, by omega, by omega⟩)))
  have f : ∀ r, r ≤ 72 → fi κ1 (A r) = fi κ (A r) ∧ ai κ1 (A r) = ai κ (A r) ∧ aq κ1 (A r) = aq κ (A r) := fun r hr => ⟨(x.all (hs.mem r hr)).2.2.1, (x.all (hs.mem r hr)).2.2.2.2.1, (x.all (hs.mem r hr)).2.2.2.2.2⟩
  refine ⟨hs.xn hP x eA eH eI, ?_, ?_, ?_, h.ok, h.fo, h.xx, ?_, ?_, h.lf⟩
  · unfold Tp
    rw [eA 0 (by omega), eA 1 (by omega), (f 0 (by omega)).1, (f 1 (by omega)).2.1]
    exact h.tp
  · obtain ⟨R2, r1, r2, r3, r4⟩ := h.rl
    have e2 : R2 = R := (nI_eq (by omega) (by omega)).mp (r3.symm.trans hR)
    subst e2
    refine ⟨R2, r1, by rw [eA 0 (by omega), (f 0 (by omega)).1]; exact r2, r3, fun r hr => ?_⟩
    have er : ∀ i, i < 5 → P (300 + 5 * r + i) = A (300 + 5 * r + i) := fun i hi => e _ (Or.inr (Or.inr (Or.inr ⟨r, hr, by omega, by omega⟩)))
    exact ⟨by rw [eA 19 (by omega), (f 19 (by omega)).2.2, show P (300 + 5 * r) = A (300 + 5 * r) from er 0 (by omega)]; exact (r4 r hr).1, (r4 r hr).2.xn x er⟩
  · exact h.wd.xn x (fun i hi => hs.mem _ (by omega)) (fun i hi => eA _ (by omega))
  · obtain ⟨u, nx, h1, h2, h3, h4, h5, h6⟩ := h.hy
    refine ⟨u, nx, h1, h2, by rw [eA 38 (by omega), (f 38 (by omega)).1]; exact h3, by rw [eA 38 (by omega), (f 38 (by omega)).1]; exact h4, h5, fun j hj => ?_⟩
    obtain ⟨k1, k2, k3⟩ := h6 j hj
    have hl : hSl nx u j < 20 := Nat.mod_lt _ (by decide)
    have ne : aq κ (A 39) (hSl nx u j) ≠ none := by rw [k1]; exact fun z => nomatch z
    have e4 := eH _ hl ne
    refine ⟨by rw [eA 39 (by omega), (f 39 (by omega)).2.2, show P (100 + 4 * hSl nx u j) = A (100 + 4 * hSl nx u j) from e4 0 (by omega)]; exact k1, k2.xn x (fun i hi => m _ (Or.inr (Or.inl ⟨_, hl, ne, by omega, by omega⟩))) e4, k3⟩
  · intro k hk
    rw [eA 37 (by omega), (f 37 (by omega)).2.2]
    rcases h.im k hk with z | ⟨z1, z2, z3, z4⟩
    · exact Or.inl z
    · have ne : aq κ (A 37) k ≠ none := by rw [z2]; exact fun z => nomatch z
      have e17 := eI k hk ne
      exact Or.inr ⟨z1, by rw [show P (200 + 17 * k) = A (200 + 17 * k) from e17 0 (by omega)]; exact z2, z3.xn x (fun i hi => m _ (Or.inr (Or.inr (Or.inl ⟨k, hk, ne, by omega, by omega⟩)))) e17, z4⟩
