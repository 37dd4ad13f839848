/-! the class's Press: which are wrong, loose; the pay, the habit, an edition in which m is mended -/
/-- what an edition of the State b changes -/
def Lp (b r : Nat) : Prop := r = 40 ∨ r = 41 ∨ (b ≤ r ∧ r < b + 4) ∨ (300 ≤ r ∧ r % 5 = 4)
theorem Inj.ne {A : Nat → Nat} (hA : Inj A) {i j : Nat} (h : i ≠ j) : ¬ A i = A j := fun z => h ((hA i j).mp z)
theorem c_wrongOf (N : Nat) (hN : 11 ≤ N) {κ : Cz} {A : Nat → Nat} {b c : Nat} {S : Nat → Int32} (hs : Sh κ A) (ht : sSt κ A b) (hB : Bk κ A 21 S) (hS : St κ A b S) (hc : S 3 = nI c) (hc10 : c ≤ 10) : p_Press_wrongOf N (A 40) (A b) κ = some (sWrong S c, κ) := by
  have hl : fi κ (A 21) 2 = nI c := hB.2.2.1.trans hc
  have L : ∀ (d i n : Nat), i + d = c → d < n → b_Press_wrongOf_4 N n (A 40) (A b) (bitsF (sWr S) i 0) (nI i) κ = some (sWrong S c, κ) := by
    intro d
    induction d with
    | zero =>
      intro i n hi hn
      obtain ⟨n, rfl⟩ : ∃ m, n = m + 1 := ⟨n - 1, by omega⟩
      have e : i = c := by omega
      subst e
      rw [b_Press_wrongOf_4]
      simp only [hs.pr, hs.w20, ck_1, bo_s, hl]
      rw [if_pos (nI_le (Nat.le_refl i) (by omega))]
      rfl
    | succ d ih =>
      intro i n hi hn
      obtain ⟨n, rfl⟩ : ∃ m, n = m + 1 := ⟨n - 1, by omega⟩
      have hi10 : i < 10 := by omega
      have h1 := ih (i + 1) n (by omega) (by omega)
      rw [bitsF] at h1
      rw [b_Press_wrongOf_4]
      simp only [hs.pr, hs.w20, ht, ck_1, bo_s, hl, inbT hi10 (by decide), clN (show i < 2147483648 by omega), hS.2.2.2.1 i hi10, hB.2.2.2.2.1 i hi10, lt_s9, nI_1]
      rw [if_neg (nI_ge (show i < c by omega) (by omega))]
      by_cases hw : S (13 + i) = S (43 + i)
      · rw [if_pos hw]
        simpa [sWr, hw] using h1
      · rw [if_neg hw]
        simpa [sWr, hw] using h1
  exact L c 0 N (by omega) (by omega)
theorem c_looseOfWrong (N : Nat) (hN : 11 ≤ N) {κ : Cz} {A : Nat → Nat} {b c : Nat} {S : Nat → Int32} (hs : Sh κ A) (ht : sSt κ A b) (hB : Bk κ A 21 S) (hS : St κ A b S) (hc : S 3 = nI c) (hc10 : c ≤ 10) : p_Press_looseOfWrong N (A 40) (A b) (sWrong S c) κ = some (sLoose S c, κ) := by
  have hl : fi κ (A 21) 2 = nI c := hB.2.2.1.trans hc
  have L : ∀ (d i n : Nat), i + d = c → d < n → b_Press_looseOfWrong_5 N n (A 40) (A b) (sWrong S c) (bitsF (sLs S c) i 0) (nI i) κ = some (sLoose S c, κ) := by
    intro d
    induction d with
    | zero =>
      intro i n hi hn
      obtain ⟨n, rfl⟩ : ∃ m, n = m + 1 := ⟨n - 1, by omega⟩
      have e : i = c := by omega
      subst e
      rw [b_Press_looseOfWrong_5]
      simp only [hs.pr, hs.w20, ck_1, bo_s, hl]
      rw [if_pos (nI_le (Nat.le_refl i) (by omega))]
      rfl
    | succ d ih =>
      intro i n hi hn
      obtain ⟨n, rfl⟩ : ∃ m, n = m + 1 := ⟨n - 1, by omega⟩
      have hi10 : i < 10 := by omega
      have hic : i < c := by omega
      have h1 := ih (i + 1) n (by omega) (by omega)
      rw [bitsF] at h1
      rw [b_Press_looseOfWrong_5]
      have hbt : bt (sWrong S c) i = sWr S i := by
        rw [sWrong, bt_bitsF _ _ hc10]
        simp [hic]
      simp only [hs.pr, hs.w20, ht, ck_1, bo_s, bd_s, hl, c_hasBit N _ (show i < 32 by omega), hbt, inbT hi10 (by decide), clN (show i < 2147483648 by omega), hS.2.2.2.2.2 i hi10, lt_s9, nI_1]
      rw [if_neg (nI_ge hic (by omega))]
      by_cases hw : sWr S i = true
      · rw [if_pos hw, if_neg (by decide)]
        by_cases hl : (S (33 + i) &&& sWrong S c) = 0
        · rw [if_pos hl]
          simpa [sLs, hw, hl] using h1
        · rw [if_neg hl]
          simpa [sLs, hw, hl] using h1
      · rw [if_neg hw, if_pos rfl]
        simpa [sLs, hw] using h1
  exact L c 0 N (by omega) (by omega)
theorem c_looseOf (N : Nat) (hN : 11 ≤ N) {κ : Cz} {A : Nat → Nat} {b c : Nat} {S : Nat → Int32} (hs : Sh κ A) (ht : sSt κ A b) (hB : Bk κ A 21 S) (hS : St κ A b S) (hc : S 3 = nI c) (hc10 : c ≤ 10) : p_Press_looseOf N (A 40) (A b) κ = some (sLoose S c, κ) := by
  unfold p_Press_looseOf
  simp only [hs.pr, ck_1, c_wrongOf N hN hs ht hB hS hc hc10, bd_s, c_looseOfWrong N hN hs ht hB hS hc hc10]
theorem c_howManyWrong (N : Nat) (hN : 11 ≤ N) {κ : Cz} {A : Nat → Nat} {b c : Nat} {S : Nat → Int32} (hs : Sh κ A) (ht : sSt κ A b) (hB : Bk κ A 21 S) (hS : St κ A b S) (hc : S 3 = nI c) (hc10 : c ≤ 10) : p_Press_howManyWrong N (A 40) (A b) κ = some (bcI (sWrong S c), κ) := by
  unfold p_Press_howManyWrong
  simp only [hs.pr, ck_1, c_wrongOf N hN hs ht hB hS hc hc10, bd_s, c_bitCount]
theorem c_habitOf (N : Nat) {κ : Cz} {A : Nat → Nat} {b h e : Nat} {S : Nat → Int32} (hs : Sh κ A) (ht : sSt κ A b) (hB : Bk κ A 21 S) (hS : St κ A b S) (hh : S 2 = nI h) (h12 : h ≤ 12) (he : S 10 = nI e) (he2 : e < 2 ^ 31) : p_Press_habitOf N (A 40) (A b) κ = some (nI (e % sRd h), κ) := by
  have hl : fi κ (A 21) 3 = nI h := hB.2.2.2.1.trans hh
  have h5 : fi κ (A b) 5 = nI e := hS.1.trans he
  unfold p_Press_habitOf
  simp only [hs.pr, hs.w20, ht, ck_1, bo_s, hl, h5, lt_s9]
  by_cases z : h = 0
  · subst z
    rw [if_pos (by decide)]
    simp [sRd, Nat.mod_one, nI_0]
  · rw [if_neg (nI_nle (by omega) (by omega)), ck_t (show nz (nI h) = true from decide_eq_true (nI_ne0 (by omega) (by omega))), pk_rem he2 (by omega) (by omega)]
    simp [sRd, z]
/-- what is owed and how often one was paid stay within 999 -/
def R9 (S : Nat → Int32) : Prop := (∃ v : Nat, v ≤ 999 ∧ S 12 = nI v) ∧ ∀ k, k < 10 → ∃ v : Nat, v ≤ 999 ∧ S (23 + k) = nI v
theorem min999 {x : Int32} (h : ∃ v : Nat, v ≤ 999 ∧ x = nI v) : (if (999 : Int32) < x + 1 then 999 else x + 1) = if 999 ≤ x then x else x + 1 := by
  obtain ⟨v, h1, rfl⟩ := h
  rw [nI_1, show (999 : Int32) = nI 999 from rfl]
  by_cases z : v = 999
  · subst z
    rw [if_pos (nI_lt (by omega) (by omega)), if_pos (nI_le (by omega) (by omega))]
  · rw [if_neg (nI_nlt (by omega) (by omega)), if_neg (nI_ge (by omega) (by omega))]
theorem in999 {x : Int32} (h : ∃ v : Nat, v ≤ 999 ∧ x = nI v) : ∃ v : Nat, v ≤ 999 ∧ (if 999 ≤ x then x else x + 1) = nI v := by
  obtain ⟨v, h1, rfl⟩ := h
  rw [show (999 : Int32) = nI 999 from rfl]
  by_cases z : v = 999
  · subst z
    exact ⟨999, by omega, by rw [if_pos (nI_le (by omega) (by omega))]⟩
  · exact ⟨v + 1, by omega, by rw [if_neg (nI_ge (by omega) (by omega)), nI_1]⟩
theorem R9_pay {k : Nat} {z : (Nat → Int32) × Int32 × Int32} (h : R9 z.1) : R9 (payStep k z).1 := by
  obtain ⟨S, o, p⟩ := z
  unfold payStep
  dsimp only at h ⊢
  split
  · exact h
  · split
    · refine ⟨?_, fun j hj => ?_⟩
      · have := in999 h.1
        by_cases q : 999 ≤ S 12
        · rw [if_pos q] at this ⊢; exact this
        · rw [if_neg q] at this ⊢; simpa [upd] using this
      · have e : 23 + j ≠ 12 := by omega
        have := h.2 j hj
        split
        · exact this
        · simpa [upd, e] using this
    · refine ⟨?_, fun j hj => ?_⟩
      · have e : (12 : Nat) ≠ 23 + k := by omega
        have := h.1
        split
        · simpa [upd] using this
        · simpa [upd, e] using this
      · have e : 23 + j ≠ 11 := by omega
        have e2 : 23 + k ≠ 11 := by omega
        by_cases q : j = k
        · subst q
          have h2 := in999 (h.2 j hj)
          simp only [upd, e, if_false]
          by_cases q : 999 ≤ S (23 + j)
          · rw [if_pos q] at h2 ⊢; simpa [upd_at, e] using h2
          · rw [if_neg q] at h2 ⊢; simpa [upd_at] using h2
        · have q2 : 23 + j ≠ 23 + k := by omega
          have h2 := h.2 j hj
          simp only [upd, e2, if_false]
          split
          · simpa [upd_at, e] using h2
          · simpa [upd_at, e, q2, q] using h2
theorem R9_payF : ∀ (n : Nat) (z : (Nat → Int32) × Int32 × Int32), R9 z.1 → R9 (payF n z).1
  | 0, _, h => h
  | n + 1, z, h => R9_pay (R9_payF n z h)
theorem ifu_o {c : Prop} [Decidable c] (S : Nat → Int32) {a j : Nat} {v : Int32} (h : j ≠ a) : (if c then S else upd S a v) j = S j := by
  split
  · rfl
  · rw [upd_at, if_neg h]
theorem ifu_s {c : Prop} [Decidable c] (S : Nat → Int32) {a : Nat} {v : Int32} : (if c then S else upd S a v) a = if c then S a else v := by
  split
  · rfl
  · rw [upd_at, if_pos rfl]
theorem c_payOne (N : Nat) {κ : Cz} {A : Nat → Nat} {b k : Nat} {S : Nat → Int32} {o p : Int32} (hs : Sh κ A) (ht : sSt κ A b) (hb : b ≠ 40) (hq : fi κ (A 21) 1 = S 1) (hS : St κ A b S) (ho : fi κ (A 40) 5 = o) (hp : fi κ (A 40) 4 = p) (hk : k < 10) (h9 : R9 S) (hw : ¬ S (13 + k) = S (43 + k)) : ∃ κ1, p_Press_payOne N (A 40) (A b) (nI k) κ = some κ1 ∧ St κ1 A b (payStep k (S, o, p)).1 ∧ fi κ1 (A 40) 5 = (payStep k (S, o, p)).2.1 ∧ fi κ1 (A 40) 4 = (payStep k (S, o, p)).2.2 ∧ Chg A (Lp b) κ κ1 ∧ fi κ1 (A 40) 3 = fi κ (A 40) 3 := by
  have hA := hs.inj
  have n1 : ¬ A b = A 40 := hA.ne hb
  have n2 : ¬ A 40 = A b := hA.ne (fun z => hb z.symm)
  have n3 : ¬ A (b + 1) = A (b + 2) := hA.ne (by omega)
  have n4 : ¬ A (b + 3) = A (b + 2) := hA.ne (by omega)
  obtain ⟨s1, s2, s3, s4, s5, s6⟩ := hS
  unfold p_Press_payOne payStep
  simp only [hw, if_false]
  by_cases hp1 : S 11 < S 1
  · simp only [hs.pr, hs.w20, ht, ck_1, bo_s, lt_s9, s2, hq, hp1, if_true, Option.some.injEq, exists_eq_left', s3, min999 h9.1]
    refine ⟨⟨?_, ?_, ?_, ?_, ?_, ?_⟩, ?_, ?_, (Chg.sfi hA κ (Or.inr (Or.inr (Or.inl ⟨Nat.le_refl b, by omega⟩))) _ _).trans (Chg.sfi hA _ (Or.inl rfl) _ _), ?_⟩
    · rw [fi_fi, if_neg (fun z => n1 z.1), fi_fi, if_neg (by simp), ifu_o _ (by decide)]; exact s1
    · rw [fi_fi, if_neg (fun z => n1 z.1), fi_fi, if_neg (by simp), ifu_o _ (by decide)]; exact s2
    · rw [fi_fi, if_neg (fun z => n1 z.1), fi_fi, if_pos ⟨rfl, rfl⟩, ifu_s]
    · intro i hi
      rw [ifu_o _ (by omega)]; exact s4 i hi
    · intro i hi
      rw [ifu_o _ (by omega)]; exact s5 i hi
    · intro i hi
      rw [ifu_o _ (by omega)]; exact s6 i hi
    · rw [fi_fi, if_pos ⟨rfl, rfl⟩, fi_fi, if_neg (fun z => n2 z.1), ho]
    · rw [fi_fi, if_neg (by simp), fi_fi, if_neg (fun z => n2 z.1), hp]
    · rw [fi_fi, if_neg (by simp), fi_fi, if_neg (fun z => n2 z.1)]
  · have e23 : (23 + k = 11) = False := by simp; omega
    simp only [hs.pr, hs.w20, ht, ck_1, bo_s, lt_s9, s2, hq, hp1, if_false, isK_fi, fr_fi, ln_fi, isK_ai, ai_fi, inbT hk (by decide), clN (show k < 2147483648 by omega), s5 k hk, Option.some.injEq, exists_eq_left', min999 (h9.2 k hk), upd_at, e23]
    refine ⟨⟨?_, ?_, ?_, ?_, ?_, ?_⟩, ?_, ?_, ((Chg.sfi hA κ (Or.inr (Or.inr (Or.inl ⟨Nat.le_refl b, by omega⟩))) _ _).trans (Chg.sai hA _ (r := b + 2) (Or.inr (Or.inr (Or.inl ⟨by omega, by omega⟩))) _)).trans (Chg.sfi hA _ (Or.inl rfl) _ _), ?_⟩
    · rw [fi_fi, if_neg (fun z => n1 z.1), fi_ai, fi_fi, if_neg (by simp), ifu_o _ (by omega), upd_at, if_neg (by decide)]; exact s1
    · rw [fi_fi, if_neg (fun z => n1 z.1), fi_ai, fi_fi, if_pos ⟨rfl, rfl⟩, ifu_o _ (by omega), upd_at, if_pos rfl]
    · rw [fi_fi, if_neg (fun z => n1 z.1), fi_ai, fi_fi, if_neg (by simp), ifu_o _ (by omega), upd_at, if_neg (by decide)]; exact s3
    · intro i hi
      rw [ai_fi, ai_ai, if_neg n3, ifu_o _ (by omega), upd_at, if_neg (by omega)]; exact s4 i hi
    · intro i hi
      rw [ai_fi, ai_ai, if_pos rfl, upd_at]
      by_cases q : i = k
      · subst q
        rw [if_pos rfl, ifu_s, upd_at, if_neg (show ¬ 23 + i = 11 by omega)]
      · rw [if_neg q, ifu_o _ (by omega), upd_at, if_neg (by omega)]; exact s5 i hi
    · intro i hi
      rw [ai_fi, ai_ai, if_neg n4, ifu_o _ (by omega), upd_at, if_neg (by omega)]; exact s6 i hi
    · rw [fi_fi, if_neg (by simp), fi_ai, fi_fi, if_neg (fun z => n2 z.1), ho]
    · rw [fi_fi, if_pos ⟨rfl, rfl⟩, fi_ai, fi_fi, if_neg (fun z => n2 z.1), hp]
    · rw [fi_fi, if_neg (by simp), fi_ai, fi_fi, if_neg (fun z => n2 z.1)]
