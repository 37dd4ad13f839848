/-! PHASE 2: the relation between the class's heap and the reference, and its frame -/
/-- a loop that counts up to e, by fuel -/
theorem upL (e : Nat) (P : Nat → Nat → Prop) (hx : ∀ n, P (n + 1) e) (hs : ∀ n i, i < e → P n (i + 1) → P (n + 1) i) : ∀ (n i : Nat), i ≤ e → e < n + i → P n i := by
  intro n
  induction n with
  | zero => intro i h1 h2; exact absurd h2 (by omega)
  | succ n ih =>
    intro i h1 h2
    by_cases q : i = e
    · subst q; exact hx n
    · exact hs n i (by omega) (ih (i + 1) (by omega) (by omega))
theorem c_within (N : Nat) (a lo hi : Int32) (κ : Cz) : p_ErrataRow_within N a lo hi κ = some (if lo ≤ a ∧ a ≤ hi then 1 else 0, κ) := by
  unfold p_ErrataRow_within
  by_cases h0 : a < lo
  · rw [if_pos h0, if_neg (fun z => Int32.not_le.mpr h0 z.1)]
  · rw [if_neg h0]
    by_cases h1 : hi < a
    · rw [if_pos h1, if_neg (fun z => Int32.not_le.mpr h1 z.2)]
    · rw [if_neg h1, if_pos ⟨Int32.not_lt.mp h0, Int32.not_lt.mp h1⟩]
theorem m_in (N : Nat) (a lo hi : Int32) (l h : Int64) (hl : l = lo.toInt64) (hh : h = hi.toInt64) : p12_in N a.toInt64 l h = some (if lo ≤ a ∧ a ≤ hi then 1 else 0) := by
  subst hl hh
  unfold p12_in
  have e1 : lg_cmp a.toInt64 lo.toInt64 < 0 ↔ a < lo := (lg_cmp_lt _ _).trans (by rw [Int64.lt_iff_toInt_lt, Int32.toInt_toInt64, Int32.toInt_toInt64, ← Int32.lt_iff_toInt_lt])
  have e2 : 0 < lg_cmp a.toInt64 hi.toInt64 ↔ hi < a := (lg_cmp_gt _ _).trans (by rw [Int64.lt_iff_toInt_lt, Int32.toInt_toInt64, Int32.toInt_toInt64, ← Int32.lt_iff_toInt_lt])
  by_cases h0 : a < lo
  · rw [if_pos (e1.mpr h0), if_neg (fun z => Int32.not_le.mpr h0 z.1)]
  · rw [if_neg (fun z => h0 (e1.mp z))]
    by_cases h1 : hi < a
    · rw [if_pos (e2.mpr h1), if_neg (fun z => Int32.not_le.mpr h1 z.2)]
    · rw [if_neg (fun z => h1 (e2.mp z)), if_pos ⟨Int32.not_lt.mp h0, Int32.not_lt.mp h1⟩]
theorem c_isPut (N : Nat) (a : Int32) (κ : Cz) : p_ErrataRow_isPut N a κ = some (if 0 ≤ a ∧ a ≤ 7 then 1 else 0, κ) := by
  unfold p_ErrataRow_isPut
  by_cases h0 : a < 0
  · rw [if_pos h0, if_neg (fun z => Int32.not_le.mpr h0 z.1)]
  · rw [if_neg h0]
    obtain ⟨j, hj, rfl⟩ := nI_of h0
    rw [show (8 : Int32) = nI 8 from rfl, show (7 : Int32) = nI 7 from rfl]
    by_cases h1 : 8 ≤ j
    · rw [if_pos (nI_le h1 hj), if_neg (fun z => absurd ((nI_leI hj (by omega)).mp z.2) (by omega))]
    · rw [if_neg (nI_ge (by omega) (by omega)), if_pos ⟨Int32.not_lt.mp h0, nI_le (by omega) (by omega)⟩]
/-- a number within: which -/
theorem in_nat {a hi : Int32} (n : Nat) (hn : n < 2 ^ 31) (e : hi = nI n) (h : 0 ≤ a ∧ a ≤ hi) : ∃ k, k ≤ n ∧ a = nI k := by
  subst e
  obtain ⟨j, hj, rfl⟩ := nI_of (Int32.not_lt.mpr h.1)
  exact ⟨j, (nI_leI hj hn).mp h.2, rfl⟩
theorem in_nat1 {a hi : Int32} (n : Nat) (hn : n < 2 ^ 31) (e : hi = nI n) (h : 1 ≤ a ∧ a ≤ hi) : ∃ k, 1 ≤ k ∧ k ≤ n ∧ a = nI k := by
  subst e
  obtain ⟨j, hj, rfl⟩ := nI_of (Int32.not_lt.mpr (Int32.le_trans (show (0 : Int32) ≤ 1 by decide) h.1))
  exact ⟨j, (nI_leI (by omega) hj).mp h.1, (nI_leI hj hn).mp h.2, rfl⟩
theorem lt_nat {a : Int32} {c : Nat} (hc : c < 2 ^ 31) (h : 0 ≤ a ∧ a < nI c) : ∃ k, k < c ∧ a = nI k := by
  obtain ⟨j, hj, rfl⟩ := nI_of (Int32.not_lt.mpr h.1)
  exact ⟨j, (nI_ltI hj hc).mp h.2, rfl⟩
/-! only cells of roles in L change, and the Press's rule -/
def Ch (A : Nat → Nat) (L : Nat → Prop) (κ κ1 : Cz) : Prop := Lk κ1 = Lk κ ∧ kd κ1 = kd κ ∧ ln κ1 = ln κ ∧ aq κ1 = aq κ ∧ (∀ b i, ¬ (b = A 40 ∧ i = 2) → fr κ1 b i = fr κ b i) ∧ ∀ r, ¬ L r → fi κ1 (A r) = fi κ (A r) ∧ ai κ1 (A r) = ai κ (A r) ∧ al κ1 (A r) = al κ (A r)
theorem Chg.ch {A : Nat → Nat} {L : Nat → Prop} {κ κ1 : Cz} (h : Chg A L κ κ1) : Ch A L κ κ1 := ⟨h.1, h.2.1, h.2.2.1, h.2.2.2.2.1, fun b i _ => by rw [h.2.2.2.1], h.2.2.2.2.2⟩
theorem Ch.refl (A : Nat → Nat) (L : Nat → Prop) (κ : Cz) : Ch A L κ κ := (Chg.refl A L κ).ch
theorem Ch.trans {A : Nat → Nat} {L : Nat → Prop} {κ κ1 κ2 : Cz} (h : Ch A L κ κ1) (g : Ch A L κ1 κ2) : Ch A L κ κ2 := ⟨g.1.trans h.1, g.2.1.trans h.2.1, g.2.2.1.trans h.2.2.1, g.2.2.2.1.trans h.2.2.2.1, fun b i z => (g.2.2.2.2.1 b i z).trans (h.2.2.2.2.1 b i z), fun r hr => ⟨(g.2.2.2.2.2 r hr).1.trans (h.2.2.2.2.2 r hr).1, (g.2.2.2.2.2 r hr).2.1.trans (h.2.2.2.2.2 r hr).2.1, (g.2.2.2.2.2 r hr).2.2.trans (h.2.2.2.2.2 r hr).2.2⟩⟩
theorem Ch.mono {A : Nat → Nat} {L L1 : Nat → Prop} {κ κ1 : Cz} (h : Ch A L κ κ1) (g : ∀ r, L r → L1 r) : Ch A L1 κ κ1 := ⟨h.1, h.2.1, h.2.2.1, h.2.2.2.1, h.2.2.2.2.1, fun r hr => h.2.2.2.2.2 r (fun z => hr (g r z))⟩
theorem Ch.rule40 (A : Nat → Nat) (L : Nat → Prop) (κ : Cz) (v : Option Nat) : Ch A L κ (sfr (A 40) 2 v κ) := ⟨rfl, rfl, rfl, rfl, fun b i z => by rw [fr_fr, if_neg z], fun _ _ => ⟨rfl, rfl, rfl⟩⟩
theorem Ch.fi {A : Nat → Nat} {L : Nat → Prop} {κ κ1 : Cz} (h : Ch A L κ κ1) {r : Nat} (hr : ¬ L r) : fi κ1 (A r) = fi κ (A r) := (h.2.2.2.2.2 r hr).1
theorem Ch.ai {A : Nat → Nat} {L : Nat → Prop} {κ κ1 : Cz} (h : Ch A L κ κ1) {r : Nat} (hr : ¬ L r) : ai κ1 (A r) = ai κ (A r) := (h.2.2.2.2.2 r hr).2.1
theorem Ch.aq {A : Nat → Nat} {L : Nat → Prop} {κ κ1 : Cz} (h : Ch A L κ κ1) : aq κ1 = aq κ := h.2.2.2.1
theorem Ch.mid {A : Nat → Nat} {L : Nat → Prop} {κ κ1 : Cz} (g : Ch A L κ κ1) : ∃ κ2, Chg A L κ κ2 ∧ κ1 = sfr (A 40) 2 (fr κ1 (A 40) 2) κ2 := by
  refine ⟨(κ1.1, κ1.2.1, κ1.2.2.1, κ1.2.2.2.1, fr κ, κ1.2.2.2.2.2), ⟨g.1, g.2.1, g.2.2.1, rfl, g.2.2.2.1, g.2.2.2.2.2⟩, ?_⟩
  obtain ⟨a1, a2, a3, a4, a5, a6⟩ := κ1
  have h : va_up (fr κ) (A 40) (va_up (fr κ (A 40)) 2 (a5 (A 40) 2)) = a5 := by
    funext b
    by_cases hb : b = A 40
    · subst hb
      rw [va_up_self]
      funext i
      by_cases hi : i = 2
      · subst hi; rw [va_up_self]
      · rw [va_up_ne _ _ hi]; exact (g.2.2.2.2.1 (A 40) i (fun z => hi z.2)).symm
    · rw [va_up_ne _ _ hb]
      funext i
      exact (g.2.2.2.2.1 b i (fun z => hb z.1)).symm
  show (a1, a2, a3, a4, a5, a6) = (a1, a2, a3, a4, va_up (fr κ) (A 40) (va_up (fr κ (A 40)) 2 (a5 (A 40) 2)), a6)
  rw [h]
theorem fr40 {A : Nat → Nat} {κ : Cz} {v : Option Nat} (hA : Inj A) {r i : Nat} (h : r ≠ 40 ∨ i ≠ 2) : fr (sfr (A 40) 2 v κ) (A r) i = fr κ (A r) i := by
  rw [fr_fr, if_neg]
  rintro ⟨h1, h2⟩
  have := (hA r 40).mp h1
  omega
theorem sSt.sfr40 {A : Nat → Nat} {κ : Cz} {v : Option Nat} {b : Nat} (hA : Inj A) (hb : b ≠ 40) (h : sSt κ A b) : sSt (sfr (A 40) 2 v κ) A b := by
  simp only [sSt, isK_fr, ln_fr, fr40 hA (Or.inl hb)]
  exact h
theorem sWd.sfr40 {A : Nat → Nat} {κ : Cz} {v : Option Nat} {b : Nat} (hA : Inj A) (hb : 40 < b) (h : sWd κ A b) : sWd (sfr (A 40) 2 v κ) A b := by
  simp only [sWd, sWo, sBk, sNt, sSt, isK_fr, ln_fr, fr40 hA (Or.inl (show b ≠ 40 by omega)), fr40 hA (Or.inl (show b + 1 ≠ 40 by omega)), fr40 hA (Or.inl (show b + 5 ≠ 40 by omega)), fr40 hA (Or.inl (show b + 9 ≠ 40 by omega)), fr40 hA (Or.inl (show b + 13 ≠ 40 by omega))]
  exact h
theorem Sh.sfr40 {A : Nat → Nat} {κ : Cz} {v : Option Nat} (h : Sh κ A) : Sh (sfr (A 40) 2 v κ) A := by
  have hA := h.inj
  have n : ∀ r, r ≠ 40 → ∀ i, fr (sfr (A 40) 2 v κ) (A r) i = fr κ (A r) i := fun r hr i => fr40 hA (Or.inl hr)
  refine ⟨hA, ?_, ?_, ?_, ?_, ?_, ?_, ?_, ?_, ?_, ?_, ?_, ?_⟩
  · simp only [sTop, isK_fr, ln_fr, n 0 (by decide)]; exact h.top
  · simp only [sTk, isK_fr, ln_fr, n 2 (by decide)]; exact h.tk
  · simp only [sBR, isK_fr, ln_fr, n 6 (by decide), n 7 (by decide), n 11 (by decide)]; exact h.bR
  · simp only [sRR, isK_fr, ln_fr, n 15 (by decide)]; exact h.rR
  · simp only [sW20, isK_fr, ln_fr, n 20 (by decide), n 21 (by decide), n 25 (by decide), n 29 (by decide), n 33 (by decide)]; exact h.w20
  · simp only [sHi, isK_fr, ln_fr, n 38 (by decide)]; exact h.hi
  · simp only [sPr, isK_fr, ln_fr, fr40 hA (r := 40) (i := 0) (Or.inr (by decide)), fr40 hA (r := 40) (i := 1) (Or.inr (by decide))]; exact h.pr
  · simp only [sRS, isK_fr, ln_fr, aq_fr, n 42 (by decide)]; exact h.rS
  · exact ⟨h.r5.1.sfr40 hA (by decide), h.r5.2.1.sfr40 hA (by decide), h.r5.2.2.1.sfr40 hA (by decide), h.r5.2.2.2.1.sfr40 hA (by decide), h.r5.2.2.2.2.sfr40 hA (by decide)⟩
  · exact sSt.sfr40 (b := 66) hA (by decide) h.tr
  · intro i hi
    rw [aq_fr]
    exact (h.hs i hi).imp id (fun z => ⟨z.1, z.2.sfr40 hA (by omega)⟩)
  · intro i hi
    rw [aq_fr]
    exact (h.im i hi).imp id (fun z => ⟨z.1, z.2.sfr40 hA (by omega)⟩)
theorem Sh.ch {A : Nat → Nat} {L : Nat → Prop} {κ κ1 : Cz} (h : Sh κ A) (g : Ch A L κ κ1) : Sh κ1 A := by
  obtain ⟨κ2, g2, e⟩ := g.mid
  rw [e]
  exact (h.chg g2).sfr40
theorem sSt.ch {A : Nat → Nat} {L : Nat → Prop} {κ κ1 : Cz} {b : Nat} (hA : Inj A) (hb : b ≠ 40) (h : sSt κ A b) (g : Ch A L κ κ1) : sSt κ1 A b := by
  obtain ⟨κ2, g2, e⟩ := g.mid
  rw [e]
  exact (h.chg g2).sfr40 hA hb
theorem RuC.sfr40 {A : Nat → Nat} {κ : Cz} {μ : Mz} {v : Option Nat} {r : Nat} (hA : Inj A) (h : RuC κ A μ r) : RuC (sfr (A 40) 2 v κ) A μ r := by
  obtain ⟨nc, k, g', s, en, h1, h2, h3, h4, h5, h6, h7, h8⟩ := h
  refine ⟨nc, k, g', s, en, ?_, h2, h3, h4, h5, h6, h7, h8⟩
  simp only [sRu, isK_fr, ln_fr, fr40 hA (Or.inl (show 300 + 5 * r ≠ 40 by omega))]
  exact h1
theorem RuC.ch {κ κ1 : Cz} {A : Nat → Nat} {μ μ1 : Mz} {r : Nat} {L : Nat → Prop} (hA : Inj A) (h : RuC κ A μ r) (g : Ch A L κ κ1) (hL : ∀ q, 300 ≤ q → q % 5 ≠ 4 → ¬ L q) (m1 : ga 1 μ1 = ga 1 μ) (m3 : ga 3 μ1 = ga 3 μ) (m4 : ga 4 μ1 = ga 4 μ) : RuC κ1 A μ1 r := by
  obtain ⟨κ2, g2, e⟩ := g.mid
  rw [e]
  exact (h.chg g2 hL m1 m3 m4).sfr40 hA
theorem St.ch {κ κ1 : Cz} {A : Nat → Nat} {L : Nat → Prop} {b : Nat} {S : Nat → Int32} (h : St κ A b S) (g : Ch A L κ κ1) (n : ∀ r, b ≤ r → r < b + 4 → ¬ L r) : St κ1 A b S := by
  unfold St
  rw [g.fi (n b (by omega) (by omega)), g.ai (n (b + 1) (by omega) (by omega)), g.ai (n (b + 2) (by omega) (by omega)), g.ai (n (b + 3) (by omega) (by omega))]
  exact h
theorem Bk.ch {κ κ1 : Cz} {A : Nat → Nat} {L : Nat → Prop} {b : Nat} {S : Nat → Int32} (h : Bk κ A b S) (g : Ch A L κ κ1) (n : ∀ r, b ≤ r → r < b + 4 → ¬ L r) : Bk κ1 A b S := by
  unfold Bk
  rw [g.fi (n b (by omega) (by omega)), g.ai (n (b + 1) (by omega) (by omega)), g.ai (n (b + 2) (by omega) (by omega)), g.ai (n (b + 3) (by omega) (by omega))]
  exact h
theorem Nt.ch {κ κ1 : Cz} {A : Nat → Nat} {L : Nat → Prop} {b : Nat} {S : Nat → Int32} (h : Nt κ A b S) (g : Ch A L κ κ1) (n : ∀ r, b ≤ r → r < b + 4 → ¬ L r) : Nt κ1 A b S := by
  unfold Nt
  rw [g.fi (n b (by omega) (by omega)), g.ai (n (b + 1) (by omega) (by omega)), g.ai (n (b + 2) (by omega) (by omega)), g.ai (n (b + 3) (by omega) (by omega))]
  exact h
theorem Wd.ch {κ κ1 : Cz} {A : Nat → Nat} {L : Nat → Prop} {b : Nat} {S : Nat → Int32} {f x : Int32} (h : Wd κ A b S f x) (g : Ch A L κ κ1) (n : ∀ r, b ≤ r → r < b + 17 → ¬ L r) : Wd κ1 A b S f x := by
  refine ⟨h.1.ch g (fun r h1 h2 => n r (by omega) (by omega)), h.2.1.ch g (fun r h1 h2 => n r (by omega) (by omega)), h.2.2.1.ch g (fun r h1 h2 => n r (by omega) (by omega)), h.2.2.2.1.ch g (fun r h1 h2 => n r (by omega) (by omega)), ?_, ?_⟩
  · rw [g.fi (n b (by omega) (by omega))]; exact h.2.2.2.2.1
  · rw [g.fi (n b (by omega) (by omega))]; exact h.2.2.2.2.2
/-! the relation's pieces -/
/-- the tape -/
def Tp (κ : Cz) (A : Nat → Nat) (μ : Mz) : Prop := ∃ t, t ≤ 400 ∧ fi κ (A 0) 1 = nI t ∧ gi 0 μ = nI t ∧ ∀ i, i < t → ∃ v, v < 256 ∧ ai κ (A 1) i = nI v ∧ ga 0 μ i = (nI v).toInt8.toInt32
/-- the rules -/
def Rl (κ : Cz) (A : Nat → Nat) (μ : Mz) : Prop := ∃ R, R ≤ 6 ∧ fi κ (A 0) 6 = nI R ∧ gi 1 μ = nI R ∧ ∀ r, r < R → aq κ (A 19) r = some (A (300 + 5 * r)) ∧ RuC κ A μ r
/-- a rule in force, of R -/
def Fo (f R : Int32) : Prop := f = -1 ∨ ∃ r : Nat, r < 6 ∧ f = nI r ∧ nI r < R
def NtV (S : Nat → Int32) (c i : Nat) : Prop := (∃ v, v ≤ 60 ∧ S (98 + 3 * i) = nI v) ∧ (∃ l, l < c ∧ S (98 + 3 * i + 1) = nI l) ∧ In8 (S (98 + 3 * i + 2))
/-- said, with or without a book: c letters, h habits, edition e, quarter q, n notes -/
def OkV (S : Nat → Int32) (c h e q n : Nat) : Prop := c ≤ 10 ∧ S 3 = nI c ∧ h ≤ 12 ∧ S 2 = nI h ∧ e ≤ 999 ∧ S 10 = nI e ∧ R9 S ∧ PV S ∧ BV S ∧ (S 0 = 1 ∧ 1 ≤ q ∨ S 0 = 0 ∧ c = 0 ∧ h = 0) ∧ q ≤ 9 ∧ S 1 = nI q ∧ n ≤ 10 ∧ S 128 = nI n ∧ ∀ i, i < n → NtV S c i
def OkW (S : Nat → Int32) : Prop := ∃ c h e q n, OkV S c h e q n
/-- a state that was kept -/
def StV (S : Nat → Int32) : Prop := (∃ e, e ≤ 999 ∧ S 10 = nI e) ∧ R9 S ∧ PV S
def hsS (μ : Mz) (j q : Nat) : Int32 := ga 8 μ (33 * j + (q - 10))
def imS (μ : Mz) (k j : Nat) : Int32 := ga 17 μ (129 * k + j)
/-- the slot of the j-th of u acts, the next one nx -/
def hSl (nx u j : Nat) : Nat := (nx + 20 - u + j) % 20
def Hy (κ : Cz) (A : Nat → Nat) (μ : Mz) : Prop := ∃ u nx, u ≤ 20 ∧ nx < 20 ∧ fi κ (A 38) 0 = nI u ∧ fi κ (A 38) 1 = nI nx ∧ gi 16 μ = nI u ∧ ∀ j, j < u → aq κ (A 39) (hSl nx u j) = some (A (100 + 4 * hSl nx u j)) ∧ St κ A (100 + 4 * hSl nx u j) (hsS μ j) ∧ StV (hsS μ j)
def Im (κ : Cz) (A : Nat → Nat) (μ : Mz) : Prop := ∀ k, k < 4 → (ga 20 μ k = 0 ∧ aq κ (A 37) k = none) ∨ (ga 20 μ k = 1 ∧ aq κ (A 37) k = some (A (200 + 17 * k)) ∧ Wd κ A (200 + 17 * k) (imS μ k) (ga 18 μ k) (ga 19 μ k) ∧ OkW (imS μ k) ∧ Fo (ga 18 μ k) (gi 1 μ) ∧ ∃ x, x < 2 ^ 31 ∧ ga 19 μ k = nI x)
/-- the relation -/
def RelA (A : Nat → Nat) (κ : Cz) (μ : Mz) : Prop := Sh κ A ∧ Tp κ A μ ∧ Rl κ A μ ∧ Wd κ A 20 (ga 7 μ) (gi 11 μ) (gi 12 μ) ∧ OkW (ga 7 μ) ∧ Fo (gi 11 μ) (gi 1 μ) ∧ (∃ x, x < 2 ^ 31 ∧ gi 12 μ = nI x) ∧ Hy κ A μ ∧ Im κ A μ ∧ gi 13 μ = -1
def Rel (x0 : Nat) (κ : Cz) (μ : Mz) : Prop := ∃ A, A 0 = x0 ∧ RelA A κ μ
theorem RelA.sh {A : Nat → Nat} {κ : Cz} {μ : Mz} (h : RelA A κ μ) : Sh κ A := h.1
theorem RelA.tp {A : Nat → Nat} {κ : Cz} {μ : Mz} (h : RelA A κ μ) : Tp κ A μ := h.2.1
theorem RelA.rl {A : Nat → Nat} {κ : Cz} {μ : Mz} (h : RelA A κ μ) : Rl κ A μ := h.2.2.1
theorem RelA.wd {A : Nat → Nat} {κ : Cz} {μ : Mz} (h : RelA A κ μ) : Wd κ A 20 (ga 7 μ) (gi 11 μ) (gi 12 μ) := h.2.2.2.1
theorem RelA.ok {A : Nat → Nat} {κ : Cz} {μ : Mz} (h : RelA A κ μ) : OkW (ga 7 μ) := h.2.2.2.2.1
theorem RelA.fo {A : Nat → Nat} {κ : Cz} {μ : Mz} (h : RelA A κ μ) : Fo (gi 11 μ) (gi 1 μ) := h.2.2.2.2.2.1
theorem RelA.xx {A : Nat → Nat} {κ : Cz} {μ : Mz} (h : RelA A κ μ) : ∃ x, x < 2 ^ 31 ∧ gi 12 μ = nI x := h.2.2.2.2.2.2.1
theorem RelA.hy {A : Nat → Nat} {κ : Cz} {μ : Mz} (h : RelA A κ μ) : Hy κ A μ := h.2.2.2.2.2.2.2.1
theorem RelA.im {A : Nat → Nat} {κ : Cz} {μ : Mz} (h : RelA A κ μ) : Im κ A μ := h.2.2.2.2.2.2.2.2.1
theorem RelA.lf {A : Nat → Nat} {κ : Cz} {μ : Mz} (h : RelA A κ μ) : gi 13 μ = -1 := h.2.2.2.2.2.2.2.2.2
/-- what asking may change in the class: readers, the press, the row's search, trial, found, scratch, gains, the rules' stacks -/
def Dc (r : Nat) : Prop := (2 ≤ r ∧ r ≤ 18) ∨ (40 ≤ r ∧ r ≤ 72) ∨ (300 ≤ r ∧ r % 5 = 4)
/-- what asking leaves in the reference -/
def QM (μ μ1 : Mz) : Prop := gi 0 μ1 = gi 0 μ ∧ gi 1 μ1 = gi 1 μ ∧ gi 11 μ1 = gi 11 μ ∧ gi 12 μ1 = gi 12 μ ∧ gi 13 μ1 = gi 13 μ ∧ gi 16 μ1 = gi 16 μ ∧ ga 0 μ1 = ga 0 μ ∧ ga 1 μ1 = ga 1 μ ∧ ga 3 μ1 = ga 3 μ ∧ ga 4 μ1 = ga 4 μ ∧ ga 7 μ1 = ga 7 μ ∧ ga 8 μ1 = ga 8 μ ∧ ga 17 μ1 = ga 17 μ ∧ ga 18 μ1 = ga 18 μ ∧ ga 19 μ1 = ga 19 μ ∧ ga 20 μ1 = ga 20 μ
theorem QM.refl (μ : Mz) : QM μ μ := ⟨rfl, rfl, rfl, rfl, rfl, rfl, rfl, rfl, rfl, rfl, rfl, rfl, rfl, rfl, rfl, rfl⟩
theorem QM.trans {μ μ1 μ2 : Mz} (h : QM μ μ1) (g : QM μ1 μ2) : QM μ μ2 := by
  obtain ⟨a1, a2, a3, a4, a5, a6, a7, a8, a9, a10, a11, a12, a13, a14, a15, a16⟩ := h
  obtain ⟨b1, b2, b3, b4, b5, b6, b7, b8, b9, b10, b11, b12, b13, b14, b15, b16⟩ := g
  exact ⟨b1.trans a1, b2.trans a2, b3.trans a3, b4.trans a4, b5.trans a5, b6.trans a6, b7.trans a7, b8.trans a8, b9.trans a9, b10.trans a10, b11.trans a11, b12.trans a12, b13.trans a13, b14.trans a14, b15.trans a15, b16.trans a16⟩
theorem hsS_c {μ μ1 : Mz} (h : ga 8 μ1 = ga 8 μ) (j : Nat) : hsS μ1 j = hsS μ j := by
  funext q
  unfold hsS
  rw [h]
theorem imS_c {μ μ1 : Mz} (h : ga 17 μ1 = ga 17 μ) (k : Nat) : imS μ1 k = imS μ k := by
  funext q
  unfold imS
  rw [h]
theorem Tp.ch {κ κ1 : Cz} {A : Nat → Nat} {μ μ1 : Mz} (h : Tp κ A μ) (n0 : fi κ1 (A 0) 1 = fi κ (A 0) 1) (n1 : ai κ1 (A 1) = ai κ (A 1)) (m0 : gi 0 μ1 = gi 0 μ) (a0 : ga 0 μ1 = ga 0 μ) : Tp κ1 A μ1 := by
  unfold Tp
  rw [n0, n1, m0, a0]
  exact h
theorem Rl.ch {κ κ1 : Cz} {A : Nat → Nat} {μ μ1 : Mz} {L : Nat → Prop} (hA : Inj A) (h : Rl κ A μ) (g : Ch A L κ κ1) (n0 : fi κ1 (A 0) 6 = fi κ (A 0) 6) (hL : ∀ q, 300 ≤ q → q % 5 ≠ 4 → ¬ L q) (m0 : gi 1 μ1 = gi 1 μ) (m1 : ga 1 μ1 = ga 1 μ) (m3 : ga 3 μ1 = ga 3 μ) (m4 : ga 4 μ1 = ga 4 μ) : Rl κ1 A μ1 := by
  obtain ⟨R, h1, h2, h3, h4⟩ := h
  exact ⟨R, h1, n0.trans h2, m0.trans h3, fun r hr => ⟨by rw [g.aq]; exact (h4 r hr).1, (h4 r hr).2.ch hA g hL m1 m3 m4⟩⟩
theorem Hy.ch {κ κ1 : Cz} {A : Nat → Nat} {μ μ1 : Mz} {L : Nat → Prop} (h : Hy κ A μ) (g : Ch A L κ κ1) (n0 : ¬ L 38) (hL : ∀ q, 100 ≤ q → q < 180 → ¬ L q) (m0 : gi 16 μ1 = gi 16 μ) (m1 : ga 8 μ1 = ga 8 μ) : Hy κ1 A μ1 := by
  obtain ⟨u, nx, h1, h2, h3, h4, h5, h6⟩ := h
  refine ⟨u, nx, h1, h2, by rw [g.fi n0]; exact h3, by rw [g.fi n0]; exact h4, m0.trans h5, fun j hj => ?_⟩
  obtain ⟨k1, k2, k3⟩ := h6 j hj
  have hs : hSl nx u j < 20 := Nat.mod_lt _ (by decide)
  exact ⟨by rw [g.aq]; exact k1, by rw [hsS_c m1]; exact k2.ch g (fun r z1 z2 => hL r (by omega) (by omega)), by rw [hsS_c m1]; exact k3⟩
theorem Im.ch {κ κ1 : Cz} {A : Nat → Nat} {μ μ1 : Mz} {L : Nat → Prop} (h : Im κ A μ) (g : Ch A L κ κ1) (hL : ∀ q, 200 ≤ q → q < 268 → ¬ L q) (m0 : gi 1 μ1 = gi 1 μ) (m1 : ga 17 μ1 = ga 17 μ) (m2 : ga 18 μ1 = ga 18 μ) (m3 : ga 19 μ1 = ga 19 μ) (m4 : ga 20 μ1 = ga 20 μ) : Im κ1 A μ1 := by
  intro k hk
  rw [g.aq, m0, imS_c m1, m2, m3, m4]
  exact (h k hk).imp id (fun z => ⟨z.1, z.2.1, z.2.2.1.ch g (fun r z1 z2 => hL r (by omega) (by omega)), z.2.2.2⟩)
theorem RelA.gen {A : Nat → Nat} {κ κ1 : Cz} {μ μ1 : Mz} {L : Nat → Prop} (h : RelA A κ μ) (g : Ch A L κ κ1) (hL : ∀ r, L r → r ≤ 1 ∨ (20 ≤ r ∧ r ≤ 36) ∨ r = 38 ∨ (100 ≤ r ∧ r < 180) ∨ Dc r) (m1 : gi 1 μ1 = gi 1 μ) (m13 : gi 13 μ1 = gi 13 μ) (b1 : ga 1 μ1 = ga 1 μ) (b3 : ga 3 μ1 = ga 3 μ) (b4 : ga 4 μ1 = ga 4 μ) (b17 : ga 17 μ1 = ga 17 μ) (b18 : ga 18 μ1 = ga 18 μ) (b19 : ga 19 μ1 = ga 19 μ) (b20 : ga 20 μ1 = ga 20 μ) (h6 : fi κ1 (A 0) 6 = fi κ (A 0) 6) (t : Tp κ1 A μ1) (w : Wd κ1 A 20 (ga 7 μ1) (gi 11 μ1) (gi 12 μ1)) (o : OkW (ga 7 μ1)) (f : Fo (gi 11 μ1) (gi 1 μ1)) (x : ∃ x, x < 2 ^ 31 ∧ gi 12 μ1 = nI x) (y : Hy κ1 A μ1) : RelA A κ1 μ1 := by
  refine ⟨h.sh.ch g, t, h.rl.ch h.sh.inj g h6 (fun q z1 z2 z3 => ?_) m1 b1 b3 b4, w, o, f, x, y, h.im.ch g (fun q z1 z2 z3 => ?_) m1 b17 b18 b19 b20, m13.trans h.lf⟩
  · have := hL q z3
    unfold Dc at this
    omega
  · have := hL q z3
    unfold Dc at this
    omega
theorem RelA.ch {A : Nat → Nat} {κ κ1 : Cz} {μ μ1 : Mz} (h : RelA A κ μ) (g : Ch A Dc κ κ1) (q : QM μ μ1) : RelA A κ1 μ1 := by
  obtain ⟨a1, a2, a3, a4, a5, a6, a7, a8, a9, a10, a11, a12, a13, a14, a15, a16⟩ := q
  have n : ∀ r, ¬ ((2 ≤ r ∧ r ≤ 18) ∨ (40 ≤ r ∧ r ≤ 72) ∨ (300 ≤ r ∧ r % 5 = 4)) → ¬ Dc r := fun r z => z
  refine h.gen g (fun r z => Or.inr (Or.inr (Or.inr (Or.inr z)))) a2 a5 a8 a9 a10 a13 a14 a15 a16 (by rw [g.fi (n _ (by omega))]) (h.tp.ch (by rw [g.fi (n _ (by omega))]) (g.ai (n _ (by omega))) a1 a7) ?_ ?_ ?_ ?_ (h.hy.ch g (n _ (by omega)) (fun q z1 z2 => n _ (by omega)) a6 a12)
  · rw [a11, a3, a4]; exact h.wd.ch g (fun r z1 z2 => n _ (by omega))
  · rw [a11]; exact h.ok
  · rw [a3, a2]; exact h.fo
  · rw [a4]; exact h.xx
