/-! row: the class's search -/
def Lx (x r : Nat) : Prop := r = 40 ∨ r = 41 ∨ r = 42 ∨ r = 44 ∨ r = 45 ∨ (46 + 4 * x + 4 ≤ r ∧ r < 66) ∨ (300 ≤ r ∧ r % 5 = 4)
def CI (A : Nat → Nat) (S0 T : Nat → Int32) (x d : Nat) (a : Acc) (κ : Cz) : Prop := Sh κ A ∧ Bk κ A 21 S0 ∧ fi κ (A 40) 3 = -1 ∧ (∀ i, i < x → ai κ (A 44) i = T i) ∧ fi κ (A 42) 4 = nI a.1 ∧ a.1 ≤ 11 ∧ (a.1 < 11 → ∀ i, i < d → ai κ (A 45) i = a.2 i)
theorem rs_at {κ : Cz} {A : Nat → Nat} (hs : Sh κ A) : ∀ x, x < 5 → aq κ (A 43) x = some (A (46 + 4 * x)) ∧ sSt κ A (46 + 4 * x) := by
  intro x hx
  have q := hs.rS.2.2.2.2.2.2.2.2.2.2.2
  match x, hx with
  | 0, _ => exact ⟨q.1, hs.r5.1⟩
  | 1, _ => exact ⟨q.2.1, hs.r5.2.1⟩
  | 2, _ => exact ⟨q.2.2.1, hs.r5.2.2.1⟩
  | 3, _ => exact ⟨q.2.2.2.1, hs.r5.2.2.2.1⟩
  | 4, _ => exact ⟨q.2.2.2.2, hs.r5.2.2.2.2⟩
theorem cpyd (f g : Nat → Int32) {n i : Nat} (hi : i < n) : va_cpy f g 0 0 n i = f i := by
  unfold va_cpy
  rw [if_pos ⟨Nat.zero_le _, by omega⟩, Nat.zero_add, Nat.sub_zero]
theorem c_leaf (N : Nat) (hN : 20000 ≤ N) {A : Nat → Nat} {κ : Cz} {S0 S T : Nat → Int32} {c h e d : Nat} {a : Acc} (hd : d ≤ 4) (hI : CI A S0 T d d a κ) (hS : St κ A (46 + 4 * d) S) (hO : OkS S c h e) (hb : Sb S0 S) : ∃ κ1, p_RowSearch_keepIfFewer N (A 42) (A (46 + 4 * d)) (nI d) κ = some κ1 ∧ CI A S0 T d d (if wN S c < a.1 then (wN S c, T) else a) κ1 ∧ Chg A (Lx d) κ κ1 := by
  obtain ⟨hs, hB, h40, hT, hf, ha, hr⟩ := hI
  have hA := hs.inj
  have hc : c ≤ 10 := hO.2.2.1
  obtain ⟨w1, w2⟩ := wN_spec S hc
  have hw := c_howManyWrong N (by omega) hs (rs_at hs d (by omega)).2 (hB.congr (fun j hj => (hb j hj).symm)) hS hO.2.1 hc
  rw [w2] at hw
  unfold p_RowSearch_keepIfFewer
  simp -implicitDefEqProofs only [hs.rS, hs.pr, ck_1, bo_s, hw, bd_s, hf]
  by_cases z : wN S c < a.1
  · rw [if_neg (nI_ge z (by omega)), if_pos z]
    have dt : ∀ {p : Prop} [Decidable p], p → decide p = true := fun h => decide_eq_true h
    simp -implicitDefEqProofs only [lt_s9, fr_fi, isK_fi, ln_fi, ai_fi, hs.rS, ck_1, bo_s, clN (show d < 2147483648 by omega), show (0 : Int32).toNatClampNeg = 0 from rfl, Nat.zero_add, dt (show ¬ nI d < 0 from nI_pos (by omega)), dt (show d ≤ 4 from hd)]
    have g : Chg A (Lx d) κ (sai (A 45) (va_cpy (ai κ (A 44)) (ai κ (A 45)) 0 0 d) (sfi (A 42) 4 (nI (wN S c)) κ)) := (Chg.sfi (L := Lx d) hA κ (r := 42) (by unfold Lx; omega) _ _).trans (Chg.sai (L := Lx d) hA _ (r := 45) (by unfold Lx; omega) _)
    refine ⟨_, rfl, ⟨hs.chg g, hB.chg g (fun r z1 z2 z3 => by unfold Lx at z3; omega), ?_, ?_, ?_, ?_, ?_⟩, g⟩
    · rw [fi_ai, fi_fi, if_neg (fun y => hA.ne (show 40 ≠ 42 by decide) y.1)]; exact h40
    · intro i hi
      rw [ai_ai, if_neg (hA.ne (by decide)), ai_fi]
      exact hT i hi
    · rw [fi_ai, fi_fi, if_pos ⟨rfl, rfl⟩]
    · show wN S c ≤ 11; omega
    · intro _ i hi
      rw [ai_ai, if_pos rfl, cpyd _ _ hi]
      exact hT i hi
  · rw [if_pos (nI_le (by omega) (by omega)), if_neg z]
    exact ⟨κ, rfl, ⟨hs, hB, h40, hT, hf, ha, hr⟩, Chg.refl _ _ _⟩
theorem CI.chg0 {A : Nat → Nat} {κ κ1 : Cz} {S0 T : Nat → Int32} {x d : Nat} {a : Acc} {L : Nat → Prop} (hI : CI A S0 T x d a κ) (g : Chg A L κ κ1) (h40 : fi κ1 (A 40) 3 = fi κ (A 40) 3) (n44 : ¬ L 44) (n42 : ¬ L 42) (n45 : ¬ L 45) (n21 : ∀ r, 21 ≤ r → r < 25 → ¬ L r) : CI A S0 T x d a κ1 := by
  obtain ⟨hs, hB, h4, hT, hf, ha, hr⟩ := hI
  refine ⟨hs.chg g, hB.chg g n21, h40.trans h4, fun i hi => by rw [g.ai n44]; exact hT i hi, by rw [g.fi n42]; exact hf, ha, fun z i hi => by rw [g.ai n45]; exact hr z i hi⟩
theorem c_dfs (N : Nat) (hN : 20000 ≤ N) {A : Nat → Nat} {S0 : Nat → Int32} {c h e d : Nat} (hd : d ≤ 4) (he : e ≤ 999) : ∀ (r f x : Nat) (κ : Cz) (S T : Nat → Int32) (a : Acc), x + r = d → r < f → CI A S0 T x d a κ → St κ A (46 + 4 * x) S → OkS S c h (e + x) → Sb S0 S → ∃ κ1, r_RowSearch_tryFrom N f (A 42) (nI x) (nI d) κ = some κ1 ∧ CI A S0 T x d (en c h r x (e + x) S T a) κ1 ∧ Chg A (Lx x) κ κ1
  | 0, f, x, κ, S, T, a, hx, hf, hI, hS, hO, hb => by
    obtain ⟨f, rfl⟩ : ∃ q, f = q + 1 := ⟨f - 1, by omega⟩
    rw [Nat.add_zero] at hx
    subst hx
    obtain ⟨κ1, e1, I1, g1⟩ := c_leaf N hN hd hI hS hO hb
    refine ⟨κ1, ?_, I1, g1⟩
    have hs := hI.1
    rw [r_RowSearch_tryFrom]
    unfold q_RowSearch_tryFrom
    simp -implicitDefEqProofs only [hs.rS, ck_1, bo_s, inbT (show x < 5 by omega) (by decide), clN (show x < 2147483648 by omega), (rs_at hs x (by omega)).1, oc_s, e1]
    rw [if_neg (nI_nlt (Nat.le_refl x) (by omega))]
  | r + 1, f, x, κ, S, T, a, hx, hf, hI, hS, hO, hb => by
    obtain ⟨f, rfl⟩ : ∃ q, f = q + 1 := ⟨f - 1, by omega⟩
    have hc : c ≤ 10 := hO.2.2.1
    have hc3 : S 3 = nI c := hO.2.1
    have ih := c_dfs N hN (A := A) (S0 := S0) (c := c) (h := h) hd he r f (x + 1)
    have hA := hI.1.inj
    have nL : ∀ q, ¬ (q = 40 ∨ q = 41 ∨ q = 42 ∨ q = 44 ∨ q = 45 ∨ (46 + 4 * x + 4 ≤ q ∧ q < 66) ∨ (300 ≤ q ∧ q % 5 = 4)) → ¬ Lx x q := fun q z => z
    have x4 : x < 4 := by omega
    -- the loop over the marks
    have LP : ∀ (k j n : Nat) (κ : Cz) (a : Acc), j + k = 11 → k < n → CI A S0 T x d a κ → St κ A (46 + 4 * x) S → ∃ κ1, b_RowSearch_tryFrom_47_1 N (r_RowSearch_tryFrom N f) n (A 42) (nI x) (nI d) (A (46 + 4 * x)) (A (46 + 4 * (x + 1))) (sLoose S c) (dgt j) κ = some κ1 ∧ CI A S0 T x d (enG (fun j a => if j = 0 ∨ sLs S c (j - 1) = true then en c h r (x + 1) (e + x + 1) (edS c h (e + x) S (dgt j)) (upd T x (dgt j)) a else a) (c + 1 - j) j a) κ1 ∧ Chg A (Lx x) κ κ1 := by
      intro k
      induction k with
      | zero =>
        intro j n κ a hj hn hI hS
        obtain ⟨n, rfl⟩ : ∃ q, n = q + 1 := ⟨n - 1, by omega⟩
        have ej : j = 11 := by omega
        subst ej
        rw [b_RowSearch_tryFrom_47_1, if_pos (show (10 : Int32) ≤ dgt 11 by decide), show c + 1 - 11 = 0 by omega]
        exact ⟨κ, rfl, hI, Chg.refl _ _ _⟩
      | succ k ihk =>
        intro j n κ a hj hn hI hS
        obtain ⟨n, rfl⟩ : ∃ q, n = q + 1 := ⟨n - 1, by omega⟩
        have hs := hI.1
        have n10 : ¬ (10 : Int32) ≤ dgt j := by
          unfold dgt
          split
          · decide
          · exact nI_ge (b := 10) (by omega) (by omega)
        rw [b_RowSearch_tryFrom_47_1, if_neg n10]
        -- a mark that may be laid
        have lay : (j = 0 ∨ sLs S c (j - 1) = true) → j ≤ c → ∃ κ1, b_RowSearch_tryFrom_75 N (r_RowSearch_tryFrom N f) (b_RowSearch_tryFrom_47_1 N (r_RowSearch_tryFrom N f) n) (A 42) (nI x) (nI d) (A (46 + 4 * x)) (A (46 + 4 * (x + 1))) (sLoose S c) (dgt j) κ = some κ1 ∧ CI A S0 T x d (enG (fun j a => if j = 0 ∨ sLs S c (j - 1) = true then en c h r (x + 1) (e + x + 1) (edS c h (e + x) S (dgt j)) (upd T x (dgt j)) a else a) (c + 1 - j) j a) κ1 ∧ Chg A (Lx x) κ κ1 := by
          intro hl hjc
          have g1 : Chg A (fun q => q = 44) κ (sai (A 44) (upd (ai κ (A 44)) x (dgt j)) κ) := Chg.sai (L := fun q => q = 44) hA κ (r := 44) rfl _
          have hs1 := hs.chg g1
          have hS1 := hS.chg g1 (fun q z1 z2 z3 => by omega)
          have t44 : ∀ i, i < x + 1 → ai (sai (A 44) (upd (ai κ (A 44)) x (dgt j)) κ) (A 44) i = upd T x (dgt j) i := by
            intro i hi
            rw [ai_ai, if_pos rfl, upd_at, upd_at]
            split
            · rfl
            · exact hI.2.2.2.1 i (by omega)
          generalize hκ1 : sai (A 44) (upd (ai κ (A 44)) x (dgt j)) κ = κ1 at g1 hs1 hS1 t44
          obtain ⟨κ2, e2, hS2, g2⟩ := c_copySt N hA (rs_at hs1 (x + 1) (by omega)).2 (rs_at hs1 x (by omega)).2 (by omega) hS1
          have hs2 := hs1.chg g2
          have hB2 : Bk κ2 A 21 S := ((hI.2.1.chg g1 (fun q z1 z2 z3 => by omega)).chg g2 (fun q z1 z2 z3 => by unfold Ls at z3; omega)).congr (fun j hj => (hb j hj).symm)
          have h402 : fi κ2 (A 40) 3 = -1 := by rw [g2.fi (by unfold Ls; omega), g1.fi (by omega)]; exact hI.2.2.1
          obtain ⟨κ3, e3, hS3, -, -, g3, l3⟩ := c_printWith N (by omega) (b := 46 + 4 * (x + 1)) (lf := -1) (by unfold Hb; omega) hs2 (rs_at hs2 (x + 1) (by omega)).2 hB2 hS2 hc3 hc hO.2.2.2.1 hO.2.2.2.2.1 hO.2.2.2.2.2.1 (by have := hO.2.2.2.2.2.2.1; omega) h402 (fun _ => rfl) hO.2.2.2.2.2.2.2.1 (dgt j)
          have hs3 := hs2.chg g3
          have gg : Chg A (fun q => q = 44 ∨ Ls (46 + 4 * (x + 1)) q ∨ Lp (46 + 4 * (x + 1)) q) κ κ3 := ((g1.mono (fun q z => Or.inl z)).trans (g2.mono (fun q z => Or.inr (Or.inl z)))).trans (g3.mono (fun q z => Or.inr (Or.inr z)))
          have ng : ∀ q, ¬ (q = 44 ∨ (46 + 4 * (x + 1) ≤ q ∧ q < 46 + 4 * (x + 1) + 4) ∨ q = 40 ∨ q = 41 ∨ (300 ≤ q ∧ q % 5 = 4)) → ¬ (q = 44 ∨ Ls (46 + 4 * (x + 1)) q ∨ Lp (46 + 4 * (x + 1)) q) := fun q z y => by unfold Ls Lp at y; omega
          have I3 : CI A S0 (upd T x (dgt j)) (x + 1) d a κ3 := by
            refine ⟨hs3, hI.2.1.chg gg (fun q z1 z2 => ng q (by omega)), l3.trans h402, fun i hi => ?_, by rw [gg.fi (ng _ (by omega))]; exact hI.2.2.2.2.1, hI.2.2.2.2.2.1, fun z i hi => by rw [gg.ai (ng _ (by omega))]; exact hI.2.2.2.2.2.2 z i hi⟩
            rw [g3.ai (by unfold Lp; omega), g2.ai (by unfold Ls; omega)]
            exact t44 i hi
          have hO3 : OkS (edS c h (e + x) S (dgt j)) c h (e + (x + 1)) := OkS_ed hO (by omega) (-1) (dgt j)
          have hb3 : Sb S0 (edS c h (e + x) S (dgt j)) := hb.trans (fun q hq => sEd_o S hc h (e + x) (-1) (dgt j) (by omega))
          obtain ⟨κ4, e4, I4, g4⟩ := ih κ3 (edS c h (e + x) S (dgt j)) (upd T x (dgt j)) a (by omega) (by omega) I3 hS3 hO3 hb3
          have g5 : Chg A (Lx x) κ κ4 := (gg.mono (fun q z => by unfold Ls Lp at z; unfold Lx; omega)).trans (g4.mono (fun q z => by unfold Lx at z ⊢; omega))
          have I5 : CI A S0 T x d (en c h r (x + 1) (e + x + 1) (edS c h (e + x) S (dgt j)) (upd T x (dgt j)) a) κ4 := by
            obtain ⟨p1, p2, p3, p4, p5⟩ := I4
            refine ⟨p1, p2, p3, fun i hi => ?_, p5⟩
            rw [p4 i (by omega), upd_at, if_neg (by omega)]
          obtain ⟨κ5, e5, I6, g6⟩ := ihk (j + 1) n κ4 _ (by omega) (by omega) I5 (hS.chg g5 (fun q z1 z2 => nL q (by omega)))
          refine ⟨κ5, ?_, ?_, g5.trans g6⟩
          · unfold b_RowSearch_tryFrom_75
            simp -implicitDefEqProofs only [hs.rS, ck_1, bo_s, inbT x4 (by decide), clN (show x < 2147483648 by omega), lt_s9, hκ1, (rs_at hs1 (x + 1) (by omega)).2, e2, hs2.rS, hs2.pr, e3, nI_1, e4, dgt_up]
            exact e5
          · rw [show c + 1 - j = c + 1 - (j + 1) + 1 by omega, enG, if_pos hl]
            exact I6
        by_cases a0 : j = 0
        · subst a0
          rw [if_pos dgt_0]
          exact lay (Or.inl rfl) (by omega)
        · obtain ⟨l, rfl⟩ : ∃ l, j = l + 1 := ⟨j - 1, by omega⟩
          rw [dgt_s, if_neg (nI_neg1 (by omega)), c_hasBit N _ (show l < 32 by omega), bd_s, ite10, show bt (sLoose S c) l = (decide (l < c) && sLs S c l) from bt_bitsF _ c hc l]
          by_cases b : sLs S c l = true ∧ l < c
          · rw [if_pos (by simp [b.1, b.2])]
            have := lay (Or.inr b.1) (by omega)
            rw [dgt_s] at this
            exact this
          · rw [if_neg (by simp only [Bool.and_eq_true, decide_eq_true_eq]; exact fun z => b ⟨z.2, z.1⟩), lt_s9, nI_1, ← dgt_s (l + 1)]
            obtain ⟨κ5, e5, I6, g6⟩ := ihk (l + 1 + 1) n κ a (by omega) (by omega) hI hS
            refine ⟨κ5, e5, ?_, g6⟩
            by_cases lc : l < c
            · rw [show c + 1 - (l + 1) = c + 1 - (l + 1 + 1) + 1 by omega, enG, if_neg (by rw [Nat.add_sub_cancel]; exact fun z => z.elim a0 (fun y => b ⟨y, lc⟩))]
              exact I6
            · rw [show c + 1 - (l + 1 + 1) = 0 by omega] at I6
              rw [show c + 1 - (l + 1) = 0 by omega]
              exact I6
    have hs := hI.1
    obtain ⟨κ1, e1, I1, g1⟩ := LP 11 0 N κ a (by omega) (by omega) hI hS
    refine ⟨κ1, ?_, I1, g1⟩
    have hl := c_looseOf N (by omega) hs (rs_at hs x (by omega)).2 (hI.2.1.congr (fun j hj => (hb j hj).symm)) hS hc3 hc
    rw [r_RowSearch_tryFrom]
    unfold q_RowSearch_tryFrom
    simp -implicitDefEqProofs only [hs.rS, hs.pr, ck_1, bo_s, bd_s, inbT (show x < 5 by omega) (by decide), clN (show x < 2147483648 by omega), (rs_at hs x (by omega)).1, oc_s, lt_s9, nI_1, inbT (show x + 1 < 5 by omega) (by decide), clN (show x + 1 < 2147483648 by omega), (rs_at hs (x + 1) (by omega)).1, hl]
    rw [if_pos (nI_ltI (by omega) (by omega) |>.mpr (by omega))]
    exact e1
