/-! PHASE 2: the class's heap by roles. A : role -> address, one to one. Roles: 0 ErrataRow, 1 tape, 2 Tokens (3 kinds, 4 values, 5 places), 6 BookReader (7 Book told, 8 meant, 9 from, 10 to, 11 begin ..14), 15 RuleReader (16 codes, 17 sumEnds, 18 clauseEnds), 19 rules, 20 World (21 Book, 22 meant, 23 from, 24 to, 25 begin ..28, 29 now ..32, 33 Notes ..36), 37 images, 38 History, 39 its row, 40 Press, 41 words, 42 RowSearch, 43 its row, 44 tried, 45 best, 46 ..65 its States, 66 trial ..69, 70 found, 71 scratch, 72 gains; 100 + 4i the States of History; 200 + 17k Worlds of images; 300 + 5r Rules -/
theorem isK_fi (a j : Nat) (v : Int32) (κ : Cz) (b k : Nat) : isK (sfi a j v κ) b k = isK κ b k := rfl
theorem isK_ai (a : Nat) (f : Nat → Int32) (κ : Cz) (b k : Nat) : isK (sai a f κ) b k = isK κ b k := rfl
theorem isK_al (a : Nat) (f : Nat → Int64) (κ : Cz) (b k : Nat) : isK (sal a f κ) b k = isK κ b k := rfl
theorem isK_fr (a j : Nat) (v : Option Nat) (κ : Cz) (b k : Nat) : isK (sfr a j v κ) b k = isK κ b k := rfl
theorem fr_fi (a j : Nat) (v : Int32) (κ : Cz) : fr (sfi a j v κ) = fr κ := rfl
theorem fr_ai (a : Nat) (f : Nat → Int32) (κ : Cz) : fr (sai a f κ) = fr κ := rfl
theorem fr_al (a : Nat) (f : Nat → Int64) (κ : Cz) : fr (sal a f κ) = fr κ := rfl
theorem fr_fr (a j : Nat) (v : Option Nat) (κ : Cz) (b i : Nat) : fr (sfr a j v κ) b i = if b = a ∧ i = j then v else fr κ b i := by
  by_cases h : b = a
  · subst h
    by_cases h2 : i = j
    · subst h2
      simp [fr, sfr, va_up]
    · simp [fr, sfr, va_up, h2]
  · simp [fr, sfr, va_up, h]
theorem ln_fi (a j : Nat) (v : Int32) (κ : Cz) : ln (sfi a j v κ) = ln κ := rfl
theorem ln_ai (a : Nat) (f : Nat → Int32) (κ : Cz) : ln (sai a f κ) = ln κ := rfl
theorem ln_al (a : Nat) (f : Nat → Int64) (κ : Cz) : ln (sal a f κ) = ln κ := rfl
theorem ln_fr (a j : Nat) (v : Option Nat) (κ : Cz) : ln (sfr a j v κ) = ln κ := rfl
theorem aq_fi (a j : Nat) (v : Int32) (κ : Cz) : aq (sfi a j v κ) = aq κ := rfl
theorem aq_ai (a : Nat) (f : Nat → Int32) (κ : Cz) : aq (sai a f κ) = aq κ := rfl
theorem aq_al (a : Nat) (f : Nat → Int64) (κ : Cz) : aq (sal a f κ) = aq κ := rfl
theorem aq_fr (a j : Nat) (v : Option Nat) (κ : Cz) : aq (sfr a j v κ) = aq κ := rfl
theorem ai_fi (a j : Nat) (v : Int32) (κ : Cz) : ai (sfi a j v κ) = ai κ := rfl
theorem ai_al (a : Nat) (f : Nat → Int64) (κ : Cz) : ai (sal a f κ) = ai κ := rfl
theorem ai_fr (a j : Nat) (v : Option Nat) (κ : Cz) : ai (sfr a j v κ) = ai κ := rfl
theorem ai_ai (a : Nat) (f : Nat → Int32) (κ : Cz) (b : Nat) : ai (sai a f κ) b = if b = a then f else ai κ b := rfl
theorem al_fi (a j : Nat) (v : Int32) (κ : Cz) : al (sfi a j v κ) = al κ := rfl
theorem al_ai (a : Nat) (f : Nat → Int32) (κ : Cz) : al (sai a f κ) = al κ := rfl
theorem al_fr (a j : Nat) (v : Option Nat) (κ : Cz) : al (sfr a j v κ) = al κ := rfl
theorem al_al (a : Nat) (f : Nat → Int64) (κ : Cz) (b : Nat) : al (sal a f κ) b = if b = a then f else al κ b := rfl
theorem fi_ai (a : Nat) (f : Nat → Int32) (κ : Cz) : fi (sai a f κ) = fi κ := rfl
theorem fi_al (a : Nat) (f : Nat → Int64) (κ : Cz) : fi (sal a f κ) = fi κ := rfl
theorem fi_fr (a j : Nat) (v : Option Nat) (κ : Cz) : fi (sfr a j v κ) = fi κ := rfl
theorem fi_fi (a j : Nat) (v : Int32) (κ : Cz) (b i : Nat) : fi (sfi a j v κ) b i = if b = a ∧ i = j then v else fi κ b i := by
  by_cases h : b = a
  · subst h
    by_cases h2 : i = j
    · subst h2
      simp [fi, sfi, va_up, upd]
    · simp [fi, sfi, va_up, upd, h2]
  · simp [fi, sfi, va_up, h]
theorem ck_1 {α : Type} (x : Option α) : ck true x = x := rfl
theorem oc_s {α β : Type} (a : α) (e : Option β) (f : α → Option β) : oc (some a) e f = f a := rfl
theorem oc_n {α β : Type} (e : Option β) (f : α → Option β) : oc none e f = e := rfl
theorem inbT {k n : Nat} (h : k < n) (hn : n < 2147483648) : inb (nI k) n = true := inb_nI h hn
theorem clN {n : Nat} (h : n < 2147483648) : (nI n).toNatClampNeg = n := nI_clamp h
theorem upd_at (f : Nat → Int32) (k : Nat) (x : Int32) (j : Nat) : upd f k x j = if j = k then x else f j := rfl
theorem updL_at (f : Nat → Int64) (k : Nat) (x : Int64) (j : Nat) : vp_updL f k x j = if j = k then x else f j := rfl
/-- one to one -/
def Inj (A : Nat → Nat) : Prop := ∀ i j, A i = A j ↔ i = j
/-- only cells of roles in L change, and no reference -/
def Chg (A : Nat → Nat) (L : Nat → Prop) (κ κ1 : Cz) : Prop := Lk κ1 = Lk κ ∧ kd κ1 = kd κ ∧ ln κ1 = ln κ ∧ fr κ1 = fr κ ∧ aq κ1 = aq κ ∧ ∀ r, ¬ L r → fi κ1 (A r) = fi κ (A r) ∧ ai κ1 (A r) = ai κ (A r) ∧ al κ1 (A r) = al κ (A r)
theorem Chg.refl (A : Nat → Nat) (L : Nat → Prop) (κ : Cz) : Chg A L κ κ := ⟨rfl, rfl, rfl, rfl, rfl, fun _ _ => ⟨rfl, rfl, rfl⟩⟩
theorem Chg.trans {A : Nat → Nat} {L : Nat → Prop} {κ κ1 κ2 : Cz} (h : Chg A L κ κ1) (g : Chg A L κ1 κ2) : Chg A L κ κ2 := ⟨g.1.trans h.1, g.2.1.trans h.2.1, g.2.2.1.trans h.2.2.1, g.2.2.2.1.trans h.2.2.2.1, g.2.2.2.2.1.trans h.2.2.2.2.1, fun r hr => ⟨(g.2.2.2.2.2 r hr).1.trans (h.2.2.2.2.2 r hr).1, (g.2.2.2.2.2 r hr).2.1.trans (h.2.2.2.2.2 r hr).2.1, (g.2.2.2.2.2 r hr).2.2.trans (h.2.2.2.2.2 r hr).2.2⟩⟩
theorem Chg.mono {A : Nat → Nat} {L L1 : Nat → Prop} {κ κ1 : Cz} (h : Chg A L κ κ1) (g : ∀ r, L r → L1 r) : Chg A L1 κ κ1 := ⟨h.1, h.2.1, h.2.2.1, h.2.2.2.1, h.2.2.2.2.1, fun r hr => h.2.2.2.2.2 r (fun z => hr (g r z))⟩
theorem Chg.sfi {A : Nat → Nat} {L : Nat → Prop} (hA : Inj A) (κ : Cz) {r : Nat} (hr : L r) (j : Nat) (v : Int32) : Chg A L κ (sfi (A r) j v κ) := ⟨rfl, rfl, rfl, rfl, rfl, fun q hq => ⟨va_up_ne _ _ (fun z => hq (((hA q r).mp z) ▸ hr)), rfl, rfl⟩⟩
theorem Chg.sai {A : Nat → Nat} {L : Nat → Prop} (hA : Inj A) (κ : Cz) {r : Nat} (hr : L r) (f : Nat → Int32) : Chg A L κ (sai (A r) f κ) := ⟨rfl, rfl, rfl, rfl, rfl, fun q hq => ⟨rfl, va_up_ne _ _ (fun z => hq (((hA q r).mp z) ▸ hr)), rfl⟩⟩
theorem Chg.sal {A : Nat → Nat} {L : Nat → Prop} (hA : Inj A) (κ : Cz) {r : Nat} (hr : L r) (f : Nat → Int64) : Chg A L κ (sal (A r) f κ) := ⟨rfl, rfl, rfl, rfl, rfl, fun q hq => ⟨rfl, rfl, va_up_ne _ _ (fun z => hq (((hA q r).mp z) ▸ hr))⟩⟩
theorem Chg.isK {A : Nat → Nat} {L : Nat → Prop} {κ κ1 : Cz} (h : Chg A L κ κ1) (b k : Nat) : isK κ1 b k = isK κ b k := by
  show decide (b ∈ Lk κ1 ∧ kd κ1 b = k) = decide (b ∈ Lk κ ∧ kd κ b = k)
  rw [h.1, h.2.1]
theorem Chg.ln {A : Nat → Nat} {L : Nat → Prop} {κ κ1 : Cz} (h : Chg A L κ κ1) : ln κ1 = ln κ := h.2.2.1
theorem Chg.fr {A : Nat → Nat} {L : Nat → Prop} {κ κ1 : Cz} (h : Chg A L κ κ1) : fr κ1 = fr κ := h.2.2.2.1
theorem Chg.aq {A : Nat → Nat} {L : Nat → Prop} {κ κ1 : Cz} (h : Chg A L κ κ1) : aq κ1 = aq κ := h.2.2.2.2.1
theorem Chg.fi {A : Nat → Nat} {L : Nat → Prop} {κ κ1 : Cz} (h : Chg A L κ κ1) {r : Nat} (hr : ¬ L r) : fi κ1 (A r) = fi κ (A r) := (h.2.2.2.2.2 r hr).1
theorem Chg.ai {A : Nat → Nat} {L : Nat → Prop} {κ κ1 : Cz} (h : Chg A L κ κ1) {r : Nat} (hr : ¬ L r) : ai κ1 (A r) = ai κ (A r) := (h.2.2.2.2.2 r hr).2.1
theorem Chg.al {A : Nat → Nat} {L : Nat → Prop} {κ κ1 : Cz} (h : Chg A L κ κ1) {r : Nat} (hr : ¬ L r) : al κ1 (A r) = al κ (A r) := (h.2.2.2.2.2 r hr).2.2
/-- a State, a Book, Notes, a World that stand from the role b on -/
abbrev sSt (κ : Cz) (A : Nat → Nat) (b : Nat) : Prop := isK κ (A b) 8 = true ∧ fr κ (A b) 0 = some (A (b + 1)) ∧ fr κ (A b) 1 = some (A (b + 2)) ∧ fr κ (A b) 2 = some (A (b + 3)) ∧ isK κ (A (b + 1)) 20 = true ∧ ln κ (A (b + 1)) = 10 ∧ isK κ (A (b + 2)) 20 = true ∧ ln κ (A (b + 2)) = 10 ∧ isK κ (A (b + 3)) 20 = true ∧ ln κ (A (b + 3)) = 10
abbrev sBk (κ : Cz) (A : Nat → Nat) (b : Nat) : Prop := isK κ (A b) 0 = true ∧ fr κ (A b) 4 = some (A (b + 1)) ∧ fr κ (A b) 5 = some (A (b + 2)) ∧ fr κ (A b) 6 = some (A (b + 3)) ∧ fr κ (A b) 7 = some (A (b + 4)) ∧ isK κ (A (b + 1)) 20 = true ∧ ln κ (A (b + 1)) = 10 ∧ isK κ (A (b + 2)) 20 = true ∧ ln κ (A (b + 2)) = 12 ∧ isK κ (A (b + 3)) 20 = true ∧ ln κ (A (b + 3)) = 12
abbrev sNt (κ : Cz) (A : Nat → Nat) (b : Nat) : Prop := isK κ (A b) 3 = true ∧ fr κ (A b) 1 = some (A (b + 1)) ∧ fr κ (A b) 2 = some (A (b + 2)) ∧ fr κ (A b) 3 = some (A (b + 3)) ∧ isK κ (A (b + 1)) 20 = true ∧ ln κ (A (b + 1)) = 10 ∧ isK κ (A (b + 2)) 20 = true ∧ ln κ (A (b + 2)) = 10 ∧ isK κ (A (b + 3)) 20 = true ∧ ln κ (A (b + 3)) = 10
abbrev sWo (κ : Cz) (A : Nat → Nat) (b : Nat) : Prop := isK κ (A b) 10 = true ∧ fr κ (A b) 0 = some (A (b + 1)) ∧ fr κ (A b) 1 = some (A (b + 9)) ∧ fr κ (A b) 2 = some (A (b + 13))
abbrev sWd (κ : Cz) (A : Nat → Nat) (b : Nat) : Prop := sWo κ A b ∧ sBk κ A (b + 1) ∧ sSt κ A (b + 5) ∧ sSt κ A (b + 9) ∧ sNt κ A (b + 13)
abbrev sTop (κ : Cz) (A : Nat → Nat) : Prop := isK κ (A 0) 11 = true ∧ fr κ (A 0) 0 = some (A 1) ∧ fr κ (A 0) 2 = some (A 2) ∧ fr κ (A 0) 3 = some (A 6) ∧ fr κ (A 0) 4 = some (A 15) ∧ fr κ (A 0) 5 = some (A 19) ∧ fr κ (A 0) 7 = some (A 20) ∧ fr κ (A 0) 8 = some (A 37) ∧ fr κ (A 0) 9 = some (A 38) ∧ fr κ (A 0) 10 = some (A 40) ∧ fr κ (A 0) 11 = some (A 42) ∧ fr κ (A 0) 12 = some (A 66) ∧ fr κ (A 0) 13 = some (A 70) ∧ fr κ (A 0) 14 = some (A 71) ∧ fr κ (A 0) 15 = some (A 72) ∧ isK κ (A 1) 20 = true ∧ ln κ (A 1) = 400 ∧ isK κ (A 70) 20 = true ∧ ln κ (A 70) = 3 ∧ isK κ (A 71) 20 = true ∧ ln κ (A 71) = 61 ∧ isK κ (A 72) 20 = true ∧ ln κ (A 72) = 128 ∧ isK κ (A 19) 22 = true ∧ ln κ (A 19) = 6 ∧ isK κ (A 37) 24 = true ∧ ln κ (A 37) = 4
abbrev sTk (κ : Cz) (A : Nat → Nat) : Prop := isK κ (A 2) 9 = true ∧ fr κ (A 2) 0 = some (A 3) ∧ fr κ (A 2) 1 = some (A 4) ∧ fr κ (A 2) 2 = some (A 5) ∧ isK κ (A 3) 20 = true ∧ ln κ (A 3) = 401 ∧ isK κ (A 4) 20 = true ∧ ln κ (A 4) = 401 ∧ isK κ (A 5) 20 = true ∧ ln κ (A 5) = 401
abbrev sBR (κ : Cz) (A : Nat → Nat) : Prop := isK κ (A 6) 1 = true ∧ fr κ (A 6) 0 = some (A 2) ∧ fr κ (A 6) 1 = some (A 7) ∧ isK κ (A 7) 0 = true ∧ fr κ (A 7) 4 = some (A 8) ∧ fr κ (A 7) 5 = some (A 9) ∧ fr κ (A 7) 6 = some (A 10) ∧ fr κ (A 7) 7 = some (A 11) ∧ isK κ (A 8) 20 = true ∧ ln κ (A 8) = 10 ∧ isK κ (A 9) 20 = true ∧ ln κ (A 9) = 12 ∧ isK κ (A 10) 20 = true ∧ ln κ (A 10) = 12 ∧ isK κ (A 11) 8 = true ∧ fr κ (A 11) 0 = some (A 12) ∧ fr κ (A 11) 1 = some (A 13) ∧ fr κ (A 11) 2 = some (A 14) ∧ isK κ (A 12) 20 = true ∧ ln κ (A 12) = 10 ∧ isK κ (A 13) 20 = true ∧ ln κ (A 13) = 10 ∧ isK κ (A 14) 20 = true ∧ ln κ (A 14) = 10
abbrev sRR (κ : Cz) (A : Nat → Nat) : Prop := isK κ (A 15) 7 = true ∧ fr κ (A 15) 0 = some (A 2) ∧ fr κ (A 15) 1 = some (A 16) ∧ fr κ (A 15) 2 = some (A 17) ∧ fr κ (A 15) 3 = some (A 18) ∧ isK κ (A 16) 20 = true ∧ ln κ (A 16) = 400 ∧ isK κ (A 17) 20 = true ∧ ln κ (A 17) = 12 ∧ isK κ (A 18) 20 = true ∧ ln κ (A 18) = 12
abbrev sW20 (κ : Cz) (A : Nat → Nat) : Prop := isK κ (A 20) 10 = true ∧ fr κ (A 20) 0 = some (A 21) ∧ fr κ (A 20) 1 = some (A 29) ∧ fr κ (A 20) 2 = some (A 33) ∧ isK κ (A 21) 0 = true ∧ fr κ (A 21) 4 = some (A 22) ∧ fr κ (A 21) 5 = some (A 23) ∧ fr κ (A 21) 6 = some (A 24) ∧ fr κ (A 21) 7 = some (A 25) ∧ isK κ (A 22) 20 = true ∧ ln κ (A 22) = 10 ∧ isK κ (A 23) 20 = true ∧ ln κ (A 23) = 12 ∧ isK κ (A 24) 20 = true ∧ ln κ (A 24) = 12 ∧ isK κ (A 25) 8 = true ∧ fr κ (A 25) 0 = some (A 26) ∧ fr κ (A 25) 1 = some (A 27) ∧ fr κ (A 25) 2 = some (A 28) ∧ isK κ (A 26) 20 = true ∧ ln κ (A 26) = 10 ∧ isK κ (A 27) 20 = true ∧ ln κ (A 27) = 10 ∧ isK κ (A 28) 20 = true ∧ ln κ (A 28) = 10 ∧ isK κ (A 29) 8 = true ∧ fr κ (A 29) 0 = some (A 30) ∧ fr κ (A 29) 1 = some (A 31) ∧ fr κ (A 29) 2 = some (A 32) ∧ isK κ (A 30) 20 = true ∧ ln κ (A 30) = 10 ∧ isK κ (A 31) 20 = true ∧ ln κ (A 31) = 10 ∧ isK κ (A 32) 20 = true ∧ ln κ (A 32) = 10 ∧ isK κ (A 33) 3 = true ∧ fr κ (A 33) 1 = some (A 34) ∧ fr κ (A 33) 2 = some (A 35) ∧ fr κ (A 33) 3 = some (A 36) ∧ isK κ (A 34) 20 = true ∧ ln κ (A 34) = 10 ∧ isK κ (A 35) 20 = true ∧ ln κ (A 35) = 10 ∧ isK κ (A 36) 20 = true ∧ ln κ (A 36) = 10
abbrev sHi (κ : Cz) (A : Nat → Nat) : Prop := isK κ (A 38) 2 = true ∧ fr κ (A 38) 2 = some (A 39) ∧ isK κ (A 39) 23 = true ∧ ln κ (A 39) = 20
abbrev sPr (κ : Cz) (A : Nat → Nat) : Prop := isK κ (A 40) 4 = true ∧ fr κ (A 40) 0 = some (A 21) ∧ fr κ (A 40) 1 = some (A 41) ∧ isK κ (A 41) 21 = true ∧ ln κ (A 41) = 12
abbrev sRS (κ : Cz) (A : Nat → Nat) : Prop := isK κ (A 42) 5 = true ∧ fr κ (A 42) 0 = some (A 40) ∧ fr κ (A 42) 1 = some (A 43) ∧ fr κ (A 42) 2 = some (A 44) ∧ fr κ (A 42) 3 = some (A 45) ∧ isK κ (A 43) 23 = true ∧ ln κ (A 43) = 5 ∧ isK κ (A 44) 20 = true ∧ ln κ (A 44) = 4 ∧ isK κ (A 45) 20 = true ∧ ln κ (A 45) = 4 ∧ aq κ (A 43) 0 = some (A 46) ∧ aq κ (A 43) 1 = some (A 50) ∧ aq κ (A 43) 2 = some (A 54) ∧ aq κ (A 43) 3 = some (A 58) ∧ aq κ (A 43) 4 = some (A 62)
/-- the five States of the row's search -/
abbrev sR5 (κ : Cz) (A : Nat → Nat) : Prop := sSt κ A 46 ∧ sSt κ A 50 ∧ sSt κ A 54 ∧ sSt κ A 58 ∧ sSt κ A 62
abbrev sTr (κ : Cz) (A : Nat → Nat) : Prop := isK κ (A 66) 8 = true ∧ fr κ (A 66) 0 = some (A 67) ∧ fr κ (A 66) 1 = some (A 68) ∧ fr κ (A 66) 2 = some (A 69) ∧ isK κ (A 67) 20 = true ∧ ln κ (A 67) = 10 ∧ isK κ (A 68) 20 = true ∧ ln κ (A 68) = 10 ∧ isK κ (A 69) 20 = true ∧ ln κ (A 69) = 10
/-- what is made when it is first wanted: the States of History, Worlds of images, Rules (of nc codes, k clauses) -/
abbrev sHs (κ : Cz) (A : Nat → Nat) : Prop := ∀ i, i < 20 → aq κ (A 39) i = none ∨ aq κ (A 39) i = some (A (100 + 4 * i)) ∧ sSt κ A (100 + 4 * i)
abbrev sIm (κ : Cz) (A : Nat → Nat) : Prop := ∀ k, k < 4 → aq κ (A 37) k = none ∨ aq κ (A 37) k = some (A (200 + 17 * k)) ∧ sWd κ A (200 + 17 * k)
abbrev sRu (κ : Cz) (A : Nat → Nat) (b nc k : Nat) : Prop := isK κ (A b) 6 = true ∧ fr κ (A b) 0 = some (A (b + 1)) ∧ fr κ (A b) 1 = some (A (b + 2)) ∧ fr κ (A b) 2 = some (A (b + 3)) ∧ fr κ (A b) 3 = some (A (b + 4)) ∧ isK κ (A (b + 1)) 20 = true ∧ ln κ (A (b + 1)) = nc ∧ isK κ (A (b + 2)) 20 = true ∧ ln κ (A (b + 2)) = k ∧ isK κ (A (b + 3)) 20 = true ∧ ln κ (A (b + 3)) = k ∧ isK κ (A (b + 4)) 21 = true ∧ ln κ (A (b + 4)) = nc + 1
/-- the shape of all that is made at the start -/
def Sh (κ : Cz) (A : Nat → Nat) : Prop := Inj A ∧ sTop κ A ∧ sTk κ A ∧ sBR κ A ∧ sRR κ A ∧ sW20 κ A ∧ sHi κ A ∧ sPr κ A ∧ sRS κ A ∧ sR5 κ A ∧ sTr κ A ∧ sHs κ A ∧ sIm κ A
theorem Sh.inj {κ : Cz} {A : Nat → Nat} (h : Sh κ A) : Inj A := h.1
theorem Sh.top {κ : Cz} {A : Nat → Nat} (h : Sh κ A) : sTop κ A := h.2.1
theorem Sh.tk {κ : Cz} {A : Nat → Nat} (h : Sh κ A) : sTk κ A := h.2.2.1
theorem Sh.bR {κ : Cz} {A : Nat → Nat} (h : Sh κ A) : sBR κ A := h.2.2.2.1
theorem Sh.rR {κ : Cz} {A : Nat → Nat} (h : Sh κ A) : sRR κ A := h.2.2.2.2.1
theorem Sh.w20 {κ : Cz} {A : Nat → Nat} (h : Sh κ A) : sW20 κ A := h.2.2.2.2.2.1
theorem Sh.hi {κ : Cz} {A : Nat → Nat} (h : Sh κ A) : sHi κ A := h.2.2.2.2.2.2.1
theorem Sh.pr {κ : Cz} {A : Nat → Nat} (h : Sh κ A) : sPr κ A := h.2.2.2.2.2.2.2.1
theorem Sh.rS {κ : Cz} {A : Nat → Nat} (h : Sh κ A) : sRS κ A := h.2.2.2.2.2.2.2.2.1
theorem Sh.r5 {κ : Cz} {A : Nat → Nat} (h : Sh κ A) : sR5 κ A := h.2.2.2.2.2.2.2.2.2.1
theorem Sh.tr {κ : Cz} {A : Nat → Nat} (h : Sh κ A) : sTr κ A := h.2.2.2.2.2.2.2.2.2.2.1
theorem Sh.hs {κ : Cz} {A : Nat → Nat} (h : Sh κ A) : sHs κ A := h.2.2.2.2.2.2.2.2.2.2.2.1
theorem Sh.im {κ : Cz} {A : Nat → Nat} (h : Sh κ A) : sIm κ A := h.2.2.2.2.2.2.2.2.2.2.2.2
theorem Sh.st21 {κ : Cz} {A : Nat → Nat} (h : Sh κ A) : sBk κ A 21 := ⟨h.w20.2.2.2.2.1, h.w20.2.2.2.2.2.1, h.w20.2.2.2.2.2.2.1, h.w20.2.2.2.2.2.2.2.1, h.w20.2.2.2.2.2.2.2.2.1, h.w20.2.2.2.2.2.2.2.2.2.1, h.w20.2.2.2.2.2.2.2.2.2.2.1, h.w20.2.2.2.2.2.2.2.2.2.2.2.1, h.w20.2.2.2.2.2.2.2.2.2.2.2.2.1, h.w20.2.2.2.2.2.2.2.2.2.2.2.2.2.1, h.w20.2.2.2.2.2.2.2.2.2.2.2.2.2.2.1⟩
theorem Sh.st25 {κ : Cz} {A : Nat → Nat} (h : Sh κ A) : sSt κ A 25 := ⟨h.w20.2.2.2.2.2.2.2.2.2.2.2.2.2.2.2.1, h.w20.2.2.2.2.2.2.2.2.2.2.2.2.2.2.2.2.1, h.w20.2.2.2.2.2.2.2.2.2.2.2.2.2.2.2.2.2.1, h.w20.2.2.2.2.2.2.2.2.2.2.2.2.2.2.2.2.2.2.1, h.w20.2.2.2.2.2.2.2.2.2.2.2.2.2.2.2.2.2.2.2.1, h.w20.2.2.2.2.2.2.2.2.2.2.2.2.2.2.2.2.2.2.2.2.1, h.w20.2.2.2.2.2.2.2.2.2.2.2.2.2.2.2.2.2.2.2.2.2.1, h.w20.2.2.2.2.2.2.2.2.2.2.2.2.2.2.2.2.2.2.2.2.2.2.1, h.w20.2.2.2.2.2.2.2.2.2.2.2.2.2.2.2.2.2.2.2.2.2.2.2.1, h.w20.2.2.2.2.2.2.2.2.2.2.2.2.2.2.2.2.2.2.2.2.2.2.2.2.1⟩
theorem Sh.st29 {κ : Cz} {A : Nat → Nat} (h : Sh κ A) : sSt κ A 29 := ⟨h.w20.2.2.2.2.2.2.2.2.2.2.2.2.2.2.2.2.2.2.2.2.2.2.2.2.2.1, h.w20.2.2.2.2.2.2.2.2.2.2.2.2.2.2.2.2.2.2.2.2.2.2.2.2.2.2.1, h.w20.2.2.2.2.2.2.2.2.2.2.2.2.2.2.2.2.2.2.2.2.2.2.2.2.2.2.2.1, h.w20.2.2.2.2.2.2.2.2.2.2.2.2.2.2.2.2.2.2.2.2.2.2.2.2.2.2.2.2.1, h.w20.2.2.2.2.2.2.2.2.2.2.2.2.2.2.2.2.2.2.2.2.2.2.2.2.2.2.2.2.2.1, h.w20.2.2.2.2.2.2.2.2.2.2.2.2.2.2.2.2.2.2.2.2.2.2.2.2.2.2.2.2.2.2.1, h.w20.2.2.2.2.2.2.2.2.2.2.2.2.2.2.2.2.2.2.2.2.2.2.2.2.2.2.2.2.2.2.2.1, h.w20.2.2.2.2.2.2.2.2.2.2.2.2.2.2.2.2.2.2.2.2.2.2.2.2.2.2.2.2.2.2.2.2.1, h.w20.2.2.2.2.2.2.2.2.2.2.2.2.2.2.2.2.2.2.2.2.2.2.2.2.2.2.2.2.2.2.2.2.2.1, h.w20.2.2.2.2.2.2.2.2.2.2.2.2.2.2.2.2.2.2.2.2.2.2.2.2.2.2.2.2.2.2.2.2.2.2.1⟩
theorem Sh.st66 {κ : Cz} {A : Nat → Nat} (h : Sh κ A) : sSt κ A 66 := h.tr
theorem Sh.st7 {κ : Cz} {A : Nat → Nat} (h : Sh κ A) : sBk κ A 7 := ⟨h.bR.2.2.2.1, h.bR.2.2.2.2.1, h.bR.2.2.2.2.2.1, h.bR.2.2.2.2.2.2.1, h.bR.2.2.2.2.2.2.2.1, h.bR.2.2.2.2.2.2.2.2.1, h.bR.2.2.2.2.2.2.2.2.2.1, h.bR.2.2.2.2.2.2.2.2.2.2.1, h.bR.2.2.2.2.2.2.2.2.2.2.2.1, h.bR.2.2.2.2.2.2.2.2.2.2.2.2.1, h.bR.2.2.2.2.2.2.2.2.2.2.2.2.2.1⟩
theorem Sh.st11 {κ : Cz} {A : Nat → Nat} (h : Sh κ A) : sSt κ A 11 := ⟨h.bR.2.2.2.2.2.2.2.2.2.2.2.2.2.2.1, h.bR.2.2.2.2.2.2.2.2.2.2.2.2.2.2.2.1, h.bR.2.2.2.2.2.2.2.2.2.2.2.2.2.2.2.2.1, h.bR.2.2.2.2.2.2.2.2.2.2.2.2.2.2.2.2.2.1, h.bR.2.2.2.2.2.2.2.2.2.2.2.2.2.2.2.2.2.2.1, h.bR.2.2.2.2.2.2.2.2.2.2.2.2.2.2.2.2.2.2.2.1, h.bR.2.2.2.2.2.2.2.2.2.2.2.2.2.2.2.2.2.2.2.2.1, h.bR.2.2.2.2.2.2.2.2.2.2.2.2.2.2.2.2.2.2.2.2.2.1, h.bR.2.2.2.2.2.2.2.2.2.2.2.2.2.2.2.2.2.2.2.2.2.2.1, h.bR.2.2.2.2.2.2.2.2.2.2.2.2.2.2.2.2.2.2.2.2.2.2.2⟩
theorem Sh.wd20 {κ : Cz} {A : Nat → Nat} (h : Sh κ A) : sWd κ A 20 := ⟨⟨h.w20.1, h.w20.2.1, h.w20.2.2.1, h.w20.2.2.2.1⟩, h.st21, h.st25, h.st29, ⟨h.w20.2.2.2.2.2.2.2.2.2.2.2.2.2.2.2.2.2.2.2.2.2.2.2.2.2.2.2.2.2.2.2.2.2.2.2.1, h.w20.2.2.2.2.2.2.2.2.2.2.2.2.2.2.2.2.2.2.2.2.2.2.2.2.2.2.2.2.2.2.2.2.2.2.2.2.1, h.w20.2.2.2.2.2.2.2.2.2.2.2.2.2.2.2.2.2.2.2.2.2.2.2.2.2.2.2.2.2.2.2.2.2.2.2.2.2.1, h.w20.2.2.2.2.2.2.2.2.2.2.2.2.2.2.2.2.2.2.2.2.2.2.2.2.2.2.2.2.2.2.2.2.2.2.2.2.2.2.1, h.w20.2.2.2.2.2.2.2.2.2.2.2.2.2.2.2.2.2.2.2.2.2.2.2.2.2.2.2.2.2.2.2.2.2.2.2.2.2.2.2.1, h.w20.2.2.2.2.2.2.2.2.2.2.2.2.2.2.2.2.2.2.2.2.2.2.2.2.2.2.2.2.2.2.2.2.2.2.2.2.2.2.2.2.1, h.w20.2.2.2.2.2.2.2.2.2.2.2.2.2.2.2.2.2.2.2.2.2.2.2.2.2.2.2.2.2.2.2.2.2.2.2.2.2.2.2.2.2.1, h.w20.2.2.2.2.2.2.2.2.2.2.2.2.2.2.2.2.2.2.2.2.2.2.2.2.2.2.2.2.2.2.2.2.2.2.2.2.2.2.2.2.2.2.1, h.w20.2.2.2.2.2.2.2.2.2.2.2.2.2.2.2.2.2.2.2.2.2.2.2.2.2.2.2.2.2.2.2.2.2.2.2.2.2.2.2.2.2.2.2.1, h.w20.2.2.2.2.2.2.2.2.2.2.2.2.2.2.2.2.2.2.2.2.2.2.2.2.2.2.2.2.2.2.2.2.2.2.2.2.2.2.2.2.2.2.2.2⟩⟩
theorem sSt.chg {κ κ1 : Cz} {A : Nat → Nat} {L : Nat → Prop} {b : Nat} (h : sSt κ A b) (g : Chg A L κ κ1) : sSt κ1 A b := by
  simp only [sSt, g.isK, g.fr, g.ln]
  exact h
theorem sWd.chg {κ κ1 : Cz} {A : Nat → Nat} {L : Nat → Prop} {b : Nat} (h : sWd κ A b) (g : Chg A L κ κ1) : sWd κ1 A b := by
  simp only [sWd, sWo, sBk, sNt, sSt, g.isK, g.fr, g.ln]
  exact h
theorem Sh.chg {κ κ1 : Cz} {A : Nat → Nat} {L : Nat → Prop} (h : Sh κ A) (g : Chg A L κ κ1) : Sh κ1 A := by
  refine ⟨h.inj, ?_, ?_, ?_, ?_, ?_, ?_, ?_, ?_, ?_, ?_, ?_, ?_⟩
  · simp only [sTop, g.isK, g.fr, g.ln]; exact h.top
  · simp only [sTk, g.isK, g.fr, g.ln]; exact h.tk
  · simp only [sBR, g.isK, g.fr, g.ln]; exact h.bR
  · simp only [sRR, g.isK, g.fr, g.ln]; exact h.rR
  · simp only [sW20, g.isK, g.fr, g.ln]; exact h.w20
  · simp only [sHi, g.isK, g.fr, g.ln]; exact h.hi
  · simp only [sPr, g.isK, g.fr, g.ln]; exact h.pr
  · simp only [sRS, g.isK, g.fr, g.ln, g.aq]; exact h.rS
  · exact ⟨h.r5.1.chg g, h.r5.2.1.chg g, h.r5.2.2.1.chg g, h.r5.2.2.2.1.chg g, h.r5.2.2.2.2.chg g⟩
  · exact sSt.chg (b := 66) h.tr g
  · intro i hi
    rw [g.aq]
    exact (h.hs i hi).imp id (fun z => ⟨z.1, z.2.chg g⟩)
  · intro i hi
    rw [g.aq]
    exact (h.im i hi).imp id (fun z => ⟨z.1, z.2.chg g⟩)
/-- the cells of a State from role b on are those of S -/
def St (κ : Cz) (A : Nat → Nat) (b : Nat) (S : Nat → Int32) : Prop := fi κ (A b) 5 = S 10 ∧ fi κ (A b) 3 = S 11 ∧ fi κ (A b) 4 = S 12 ∧ (∀ i, i < 10 → ai κ (A (b + 1)) i = S (13 + i)) ∧ (∀ i, i < 10 → ai κ (A (b + 2)) i = S (23 + i)) ∧ ∀ i, i < 10 → ai κ (A (b + 3)) i = S (33 + i)
/-- a Book, without its begin -/
def Bk (κ : Cz) (A : Nat → Nat) (b : Nat) (S : Nat → Int32) : Prop := fi κ (A b) 0 = S 0 ∧ fi κ (A b) 1 = S 1 ∧ fi κ (A b) 2 = S 3 ∧ fi κ (A b) 3 = S 2 ∧ (∀ i, i < 10 → ai κ (A (b + 1)) i = S (43 + i)) ∧ (∀ i, i < 12 → ai κ (A (b + 2)) i = S (73 + 2 * i)) ∧ ∀ i, i < 12 → ai κ (A (b + 3)) i = S (73 + 2 * i + 1)
/-- all as the text told it -/
def begS (S : Nat → Int32) (j : Nat) : Int32 := if j = 10 then 0 else if j = 11 then S 97 else if j = 12 then 0 else if 13 ≤ j ∧ j < 23 then S (j + 40) else if 23 ≤ j ∧ j < 33 then 0 else if 33 ≤ j ∧ j < 43 then S (j + 30) else S j
def Nt (κ : Cz) (A : Nat → Nat) (b : Nat) (S : Nat → Int32) : Prop := fi κ (A b) 0 = S 128 ∧ ∀ i, nI i < S 128 → i < 10 → ai κ (A (b + 1)) i = S (98 + 3 * i) ∧ ai κ (A (b + 2)) i = S (98 + 3 * i + 1) ∧ ai κ (A (b + 3)) i = S (98 + 3 * i + 2)
/-- a World -/
def Wd (κ : Cz) (A : Nat → Nat) (b : Nat) (S : Nat → Int32) (f x : Int32) : Prop := Bk κ A (b + 1) S ∧ St κ A (b + 5) (begS S) ∧ St κ A (b + 9) S ∧ Nt κ A (b + 13) S ∧ fi κ (A b) 3 = f ∧ fi κ (A b) 4 = x
theorem St.chg {κ κ1 : Cz} {A : Nat → Nat} {L : Nat → Prop} {b : Nat} {S : Nat → Int32} (h : St κ A b S) (g : Chg A L κ κ1) (n : ∀ r, b ≤ r → r < b + 4 → ¬ L r) : St κ1 A b S := by
  unfold St
  rw [g.fi (n b (by omega) (by omega)), g.ai (n (b + 1) (by omega) (by omega)), g.ai (n (b + 2) (by omega) (by omega)), g.ai (n (b + 3) (by omega) (by omega))]
  exact h
theorem Bk.chg {κ κ1 : Cz} {A : Nat → Nat} {L : Nat → Prop} {b : Nat} {S : Nat → Int32} (h : Bk κ A b S) (g : Chg A L κ κ1) (n : ∀ r, b ≤ r → r < b + 4 → ¬ L r) : Bk κ1 A b S := by
  unfold Bk
  rw [g.fi (n b (by omega) (by omega)), g.ai (n (b + 1) (by omega) (by omega)), g.ai (n (b + 2) (by omega) (by omega)), g.ai (n (b + 3) (by omega) (by omega))]
  exact h
theorem Nt.chg {κ κ1 : Cz} {A : Nat → Nat} {L : Nat → Prop} {b : Nat} {S : Nat → Int32} (h : Nt κ A b S) (g : Chg A L κ κ1) (n : ∀ r, b ≤ r → r < b + 4 → ¬ L r) : Nt κ1 A b S := by
  unfold Nt
  rw [g.fi (n b (by omega) (by omega)), g.ai (n (b + 1) (by omega) (by omega)), g.ai (n (b + 2) (by omega) (by omega)), g.ai (n (b + 3) (by omega) (by omega))]
  exact h
theorem Wd.chg {κ κ1 : Cz} {A : Nat → Nat} {L : Nat → Prop} {b : Nat} {S : Nat → Int32} {f x : Int32} (h : Wd κ A b S f x) (g : Chg A L κ κ1) (n : ∀ r, b ≤ r → r < b + 17 → ¬ L r) : Wd κ1 A b S f x := by
  refine ⟨h.1.chg g (fun r h1 h2 => n r (by omega) (by omega)), h.2.1.chg g (fun r h1 h2 => n r (by omega) (by omega)), h.2.2.1.chg g (fun r h1 h2 => n r (by omega) (by omega)), h.2.2.2.1.chg g (fun r h1 h2 => n r (by omega) (by omega)), ?_, ?_⟩
  · rw [g.fi (n b (by omega) (by omega))]; exact h.2.2.2.2.1
  · rw [g.fi (n b (by omega) (by omega))]; exact h.2.2.2.2.2
/-- S and T are the same but for a State's cells -/
theorem St.congr {κ : Cz} {A : Nat → Nat} {b : Nat} {S T : Nat → Int32} (h : St κ A b S) (e : ∀ j, 10 ≤ j → j < 43 → S j = T j) : St κ A b T := by
  obtain ⟨h1, h2, h3, h4, h5, h6⟩ := h
  refine ⟨h1.trans (e 10 (by omega) (by omega)), h2.trans (e 11 (by omega) (by omega)), h3.trans (e 12 (by omega) (by omega)), fun i hi => (h4 i hi).trans (e _ (by omega) (by omega)), fun i hi => (h5 i hi).trans (e _ (by omega) (by omega)), fun i hi => (h6 i hi).trans (e _ (by omega) (by omega))⟩
theorem Bk.congr {κ : Cz} {A : Nat → Nat} {b : Nat} {S T : Nat → Int32} (h : Bk κ A b S) (e : ∀ j, j < 10 ∨ 43 ≤ j → S j = T j) : Bk κ A b T := by
  obtain ⟨h1, h2, h3, h4, h5, h6, h7⟩ := h
  exact ⟨h1.trans (e _ (by omega)), h2.trans (e _ (by omega)), h3.trans (e _ (by omega)), h4.trans (e _ (by omega)), fun i hi => (h5 i hi).trans (e _ (by omega)), fun i hi => (h6 i hi).trans (e _ (by omega)), fun i hi => (h7 i hi).trans (e _ (by omega))⟩
