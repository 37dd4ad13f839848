/-! both read on: where they stand -/
def PJ (B : Nat → Nat) (t n k : Nat) (A : Nat → Nat) (κ : Cz) (μ : Mz) : Prop := Sh κ A ∧ Tks B t n k A κ ∧ TxM B t μ ∧ gi 3 μ = 0 ∧ ∃ p, p ≤ t ∧ gi 2 μ = nI p ∧ skp B t p = plc B t k
/-- what reading changes in the reference: ints in I -/
def MI (I : Nat → Prop) (μ μ1 : Mz) : Prop := (∀ k, ¬ I k → gi k μ1 = gi k μ) ∧ (∀ k, ga k μ1 = ga k μ) ∧ (∀ k, gj k μ1 = gj k μ)
theorem MI.si {I : Nat → Prop} {k : Nat} (hk : I k) (v : Int32) (μ : Mz) : MI I μ (si k v μ) := ⟨fun j hj => gi_si_ne (fun (z : j = k) => hj (by rw [z]; exact hk)) _ _, fun _ => rfl, fun _ => rfl⟩
theorem MI.refl (I : Nat → Prop) (μ : Mz) : MI I μ μ := ⟨fun _ _ => rfl, fun _ => rfl, fun _ => rfl⟩
theorem MI.trans {I : Nat → Prop} {μ μ1 μ2 : Mz} (h : MI I μ μ1) (g : MI I μ1 μ2) : MI I μ μ2 := ⟨fun k hk => (g.1 k hk).trans (h.1 k hk), fun k => (g.2.1 k).trans (h.2.1 k), fun k => (g.2.2 k).trans (h.2.2 k)⟩
def I234 (k : Nat) : Prop := k = 2 ∨ k = 3 ∨ k = 4
theorem Tks.lt {B : Nat → Nat} {t n k : Nat} {A : Nat → Nat} {κ : Cz} (h : Tks B t n k A κ) (hp : plc B t k < t) : k < n := by
  obtain ⟨p1, -, -, p4, -⟩ := h
  by_cases e : k = n
  · subst e; omega
  · omega
/-- a number: both take it, or both fail alike -/
theorem num_both (N : Nat) (hN : 20000 ≤ N) {B : Nat → Nat} {t n k : Nat} {A : Nat → Nat} {κ : Cz} {μ : Mz} (hJ : PJ B t n k A κ μ) (lo hi : Int32) : (∃ (v : Nat) (κ1 : Cz) (μ1 : Mz), v < 100000 ∧ lo ≤ nI v ∧ nI v ≤ hi ∧ p_BookReader_readNumber N (A 6) lo hi (-1) κ = some (nI v, κ1) ∧ p12_numberHere N lo hi μ = some (1, μ1) ∧ PJ B t n (k + 1) A κ1 μ1 ∧ gi 4 μ1 = nI v ∧ Chg A Lt5 κ κ1 ∧ MI I234 μ μ1) ∨ (∃ (F : Nat) (κ1 : Cz) (μ1 : Mz), p_BookReader_readNumber N (A 6) lo hi (-1) κ = some (-1, κ1) ∧ p12_numberHere N lo hi μ = some (0, μ1) ∧ Flt F A κ1 ∧ gi 3 μ1 = nI F ∧ Chg A Lt5 κ κ1 ∧ MI I234 μ μ1) := by
  obtain ⟨hs, hk, hT, h3, p, hp, h2, hsk⟩ := hJ
  have ht := hT.1
  have hm := m_numberHere N hN hT hp h2 lo hi
  rw [hsk] at hm
  have hk' := hk
  obtain ⟨-, -, -, -, -, -, h5, h6, -⟩ := hk'
  have fl : ∀ (w : Nat) (μ' : Mz), gi 3 μ' = 0 → gi 3 (flt w (plc B t k) μ') = nI (1 + 8 * plc B t k + w) ∧ MI I234 μ' (flt w (plc B t k) μ') := by
    intro w μ' h
    unfold flt
    rw [if_pos h]
    exact ⟨gi_si _ _ _, MI.si (by unfold I234; omega) _ _⟩
  unfold p_BookReader_readNumber
  simp -implicitDefEqProofs only [hs.bR, hs.tk, ck_1, bo_s, lt_s9, h5, h6]
  by_cases hd : plc B t k < t ∧ dgB (B (plc B t k)) = true
  · rw [if_pos hd] at hm
    obtain ⟨kV, kN⟩ := tk_numV hd
    have hv := nmV_lt B t (plc B t k)
    have M4 : MI I234 μ (si 4 (nI (nmV B t (plc B t k))) (si 2 (nI (nmE B t (plc B t k))) μ)) := (MI.si (by unfold I234; omega) _ _).trans (MI.si (by unfold I234; omega) _ _)
    have g3 : gi 3 (si 4 (nI (nmV B t (plc B t k))) (si 2 (nI (nmE B t (plc B t k))) μ)) = 0 := by rw [gi_si_ne (by decide), gi_si_ne (by decide)]; exact h3
    obtain ⟨f1, f2⟩ := fl 1 _ g3
    by_cases h5' : nmE B t (plc B t k) - plc B t k ≤ 5
    · have k1 : tkK B t (plc B t k) = 1 := tk_num.1.mpr ⟨hd, h5'⟩
      rw [k1, if_neg (show ¬ (1 : Int32) = 2 by decide), if_pos rfl, kV]
      by_cases hr : lo ≤ nI (nmV B t (plc B t k)) ∧ nI (nmV B t (plc B t k)) ≤ hi
      · left
        have hm' : p12_numberHere N lo hi μ = some (1, si 4 (nI (nmV B t (plc B t k))) (si 2 (nI (nmE B t (plc B t k))) μ)) := by
          rw [hm]
          unfold nmR
          rw [if_pos ⟨h5', hr⟩]
        obtain ⟨κ1, e1, t1, g1⟩ := c_goOn N hs hk
        have hkn := hk.lt hd.1
        rw [Nat.min_eq_left (by omega)] at t1
        rw [if_neg (Int32.not_lt.mpr hr.1), if_neg (Int32.not_lt.mpr hr.2), if_neg (nI_neg1 (by omega)), e1, bo_s]
        refine ⟨_, κ1, _, hv, hr.1, hr.2, rfl, hm', ⟨hs.chg g1, t1, (hT.si (by decide) _).si (by decide) _, g3, nmE B t (plc B t k), runTo_le _ _ (by omega), ?_, ?_⟩, gi_si _ _ _, g1, M4⟩
        · rw [gi_si_ne (by decide), gi_si]
        · rw [plc, kN]
      · right
        have hm' : p12_numberHere N lo hi μ = some (0, flt 1 (plc B t k) (si 4 (nI (nmV B t (plc B t k))) (si 2 (nI (nmE B t (plc B t k))) μ))) := by
          rw [hm]
          unfold nmR
          rw [if_neg (fun z => hr z.2)]
        obtain ⟨κ1, e1, t1, g1⟩ := c_fail N hs ht hk (w := 1) (by omega)
        have e1' : p_Tokens_fail N (A 2) 1 κ = some κ1 := e1
        refine ⟨_, κ1, _, ?_, hm', t1, f1, g1, M4.trans f2⟩
        rw [e1', bo_s]
        by_cases a : nI (nmV B t (plc B t k)) < lo
        · rw [if_pos a]
        · rw [if_neg a, if_pos (Int32.not_le.mp (fun z => hr ⟨Int32.not_lt.mp a, z⟩))]
    · right
      have k2 : tkK B t (plc B t k) = 2 := tk_num.2.mpr ⟨hd, h5'⟩
      have hm' : p12_numberHere N lo hi μ = some (0, flt 1 (plc B t k) (si 4 (nI (nmV B t (plc B t k))) (si 2 (nI (nmE B t (plc B t k))) μ))) := by
        rw [hm]
        unfold nmR
        rw [if_neg (fun z => h5' z.1)]
      obtain ⟨κ1, e1, t1, g1⟩ := c_fail N hs ht hk (w := 1) (by omega)
      have e1' : p_Tokens_fail N (A 2) 1 κ = some κ1 := e1
      refine ⟨_, κ1, _, ?_, hm', t1, f1, g1, M4.trans f2⟩
      rw [k2, if_pos rfl, e1', bo_s]
  · right
    rw [if_neg hd] at hm
    have n1 : ¬ tkK B t (plc B t k) = 1 := fun z => hd (tk_num.1.mp z).1
    have n2 : ¬ tkK B t (plc B t k) = 2 := fun z => hd (tk_num.2.mp z).1
    have g3 : gi 3 (si 2 (nI (plc B t k)) μ) = 0 := by rw [gi_si_ne (by decide)]; exact h3
    obtain ⟨f1, f2⟩ := fl 0 _ g3
    obtain ⟨κ1, e1, t1, g1⟩ := c_fail N hs ht hk (w := 0) (by omega)
    have e1' : p_Tokens_fail N (A 2) 0 κ = some κ1 := e1
    refine ⟨_, κ1, _, ?_, hm, t1, f1, g1, (MI.si (by unfold I234; omega) _ _).trans f2⟩
    rw [if_neg n2, if_neg n1, e1', bo_s]
