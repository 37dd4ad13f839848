/-! a rule is read: a value -/
def RO (A : Nat → Nat) (κ : Cz) (μ : Mz) (r : Int32) (κ1 : Cz) (μ1 : Mz) (P : Prop) : Prop := Chg A LSm κ κ1 ∧ MF IS J12 μ μ1 ∧ ((r = 1 ∧ P) ∨ (r = 0 ∧ RX A κ1 μ1))
theorem RO.r {A : Nat → Nat} {κ : Cz} {μ : Mz} {r : Int32} {κ1 : Cz} {μ1 : Mz} {P : Prop} (h : RO A κ μ r κ1 μ1 P) : b01 r = true := b01_r (h.2.2.imp And.left And.left)
theorem lt5_m {A : Nat → Nat} {κ κ1 : Cz} (g : Chg A Lt5 κ κ1) : Chg A LSm κ κ1 := g.mono (fun r z => by unfold Lt5 at z; unfold LSm; omega)
theorem l1516_m {A : Nat → Nat} {κ κ1 : Cz} (g : Chg A (fun r => r = 15 ∨ r = 16) κ κ1) : Chg A LSm κ κ1 := g.mono (fun r z => by unfold LSm; omega)
theorem i234_s (k : Nat) (h : I234 k) : IS k := by unfold I234 at h; unfold IS; omega
theorem MF.j12 {μ μ1 : Mz} {I : Nat → Prop} (h : MF (fun _ => False) J12 μ μ1) : MF I J12 μ μ1 := h.mono (fun k z => z.elim) (fun k z => z)
theorem d13 : ((1 : Int32) = 3) = False := by decide
theorem d12 : ((1 : Int32) = 2) = False := by decide
theorem d23 : ((2 : Int32) = 3) = False := by decide
theorem d32 : ((3 : Int32) = 2) = False := by decide
theorem d31 : ((3 : Int32) = 1) = False := by decide
theorem d10 : ((1 : Int32) = 0) = False := by decide
/-- the class's value, by what is here -/
theorem c_valN (N : Nat) {A : Nat → Nat} {κ : Cz} (hs : Sh κ A) (h : fi κ (A 2) 5 = 1) : p_RuleReader_readValue N (A 15) κ = b_RuleReader_readValue_77 N (A 15) 0 κ := by
  unfold p_RuleReader_readValue b_RuleReader_readValue_27 b_RuleReader_readValue_28
  simp -implicitDefEqProofs only [hs.rR, hs.tk, ck_1, bo_s, h, d13, d12, if_false, if_true]
theorem c_valL (N : Nat) {A : Nat → Nat} {κ : Cz} (hs : Sh κ A) (h : fi κ (A 2) 5 = 2) : p_RuleReader_readValue N (A 15) κ = p_Tokens_fail N (A 2) 1 κ := by
  unfold p_RuleReader_readValue b_RuleReader_readValue_27 b_RuleReader_readValue_28
  simp -implicitDefEqProofs only [hs.rR, hs.tk, ck_1, bo_s, h, d23, if_false, if_true, bo_id]
theorem c_valW (N : Nat) {A : Nat → Nat} {κ : Cz} (hs : Sh κ A) (h : fi κ (A 2) 5 = 3) (h6 : ¬ (12 : Int32) ≤ fi κ (A 2) 6) : p_RuleReader_readValue N (A 15) κ = b_RuleReader_readValue_77 N (A 15) 1 κ := by
  unfold p_RuleReader_readValue b_RuleReader_readValue_28
  simp -implicitDefEqProofs only [hs.rR, hs.tk, ck_1, bo_s, h, d32, d10, h6, if_false, if_true]
theorem c_valX (N : Nat) {A : Nat → Nat} {κ : Cz} (hs : Sh κ A) (h1 : ¬ fi κ (A 2) 5 = 1) (h2 : ¬ fi κ (A 2) 5 = 2) (h3 : fi κ (A 2) 5 = 3 → (12 : Int32) ≤ fi κ (A 2) 6) : p_RuleReader_readValue N (A 15) κ = p_Tokens_fail N (A 2) 0 κ := by
  have e : b_RuleReader_readValue_27 N (A 15) κ = p_Tokens_fail N (A 2) 0 κ := by
    unfold b_RuleReader_readValue_27 b_RuleReader_readValue_28
    simp -implicitDefEqProofs only [hs.rR, hs.tk, ck_1, bo_s, h1, h2, if_false, if_true, bo_id]
  unfold p_RuleReader_readValue
  simp -implicitDefEqProofs only [hs.rR, hs.tk, ck_1, bo_s, e]
  by_cases q : fi κ (A 2) 5 = 3
  · rw [if_pos q, if_pos (h3 q)]
  · rw [if_neg q]
theorem c_77n (N : Nat) {A : Nat → Nat} {κ : Cz} {v : Nat} (hs : Sh κ A) (hv : fi κ (A 15) 6 = nI v) (h60 : ¬ nI v < (60 : Int32)) (x : Int32) : b_RuleReader_readValue_77 N (A 15) x κ = p_Tokens_fail N (A 2) 3 κ := by
  unfold b_RuleReader_readValue_77
  simp -implicitDefEqProofs only [hs.rR, hs.tk, ck_1, bo_s, hv, h60, if_false, bo_id]
/-- a value is taken by the class -/
theorem c_77y (N : Nat) {A : Nat → Nat} {κ κb : Cz} {v : Nat} {c x : Int32} (hs : Sh κ A) (hv : fi κ (A 15) 6 = nI v) (h60 : nI v < (60 : Int32)) (hx : x = 0 ∧ c = fi κ (A 2) 6 ∨ ¬ x = 0 ∧ c = (-1) - fi κ (A 2) 6) (ha : p_RuleReader_add N (A 15) c (sfi (A 15) 6 (nI (v + 1)) κ) = some κb) (hsb : Sh κb A) : b_RuleReader_readValue_77 N (A 15) x κ = p_Tokens_goOn N (A 2) κb := by
  have hA := hs.inj
  have hsa : Sh (sfi (A 15) 6 (nI (v + 1)) κ) A := hs.chg (Chg.sfi (L := fun r => r = 15) hA κ (r := 15) rfl _ _)
  have f6 : fi (sfi (A 15) 6 (nI (v + 1)) κ) (A 2) 6 = fi κ (A 2) 6 := by rw [fi_fi, if_neg (fun z => hA.ne (show 2 ≠ 15 by decide) z.1)]
  unfold b_RuleReader_readValue_77 p_Rule_codeOf
  simp -implicitDefEqProofs only [hs.rR, ck_1, hv, h60, if_true, lt_s9, nI_1, hsa.rR, hsa.tk, bo_s, bd_s, f6]
  rcases hx with ⟨h0, h1⟩ | ⟨h0, h1⟩
  · rw [if_pos h0, ← h1, ha]
    simp -implicitDefEqProofs only [bo_s, hsb.rR, hsb.tk, ck_1, bo_id]
  · rw [if_neg h0, ← h1, ha]
    simp -implicitDefEqProofs only [bo_s, hsb.rR, hsb.tk, ck_1, bo_id]
theorem m_makes (N : Nat) {μ : Mz} {v : Nat} (hv : gi 6 μ = nI v) (h60 : v ≤ 60) (a : Nat) : p12_makes N (nI a) μ = some (if v = 60 then (0, flt 3 a μ) else (1, si 6 (nI (v + 1)) μ)) := by
  unfold p12_makes
  rw [hv]
  by_cases q : v = 60
  · subst q
    rw [if_pos (show nI 60 = 60 from rfl), m_fails N (w := 3) 3 rfl, bd_s, ck_t b01_0, if_pos rfl]
  · rw [if_neg (show ¬ nI v = 60 from fun z => q ((nI_eq (by omega) (by omega)).mp (show nI v = nI 60 from z))), lt_s9, if_neg q, nI_1]
theorem tyS0 {V : Nat} (h : V < 100000) (st : List Bool) : tyStep (16 * V) st = some (false :: st) := by
  unfold tyStep
  rw [if_pos (by omega), if_pos (by omega)]
theorem tyS1 {w : Nat} (h : w < 12) (st : List Bool) : tyStep (1 + 16 * w) st = some (false :: st) := by
  unfold tyStep
  rw [if_neg (by omega), if_pos (by omega), if_pos (by omega)]
theorem tk_w20 {B : Nat → Nat} {t s : Nat} (h : tkK B t s = 3) : ∃ w, w < 20 ∧ tkV B t s = nI w := by
  unfold tkK at h
  unfold tkV
  by_cases a : t ≤ s
  · rw [if_pos a] at h
    exact absurd h (by decide)
  · rw [if_neg a] at h ⊢
    by_cases b : dgB (B s) = true
    · rw [if_pos b] at h
      split at h
      · exact absurd h (by decide)
      · exact absurd h (by decide)
    · rw [if_neg b] at h ⊢
      by_cases c : smB (B s) = true
      · rw [if_pos c] at h ⊢
        rcases wix_or B t s with ⟨z, -⟩ | ⟨w, hw, z, -⟩
        · rw [if_pos z] at h
          exact absurd h (by decide)
        · exact ⟨w, hw, z⟩
      · rw [if_neg c] at h
        split at h
        · exact absurd h (by decide)
        · exact absurd h (by decide)
theorem value_both (N : Nat) (hN : 20000 ≤ N) {B : Nat → Nat} {t n k R p : Nat} {G : Nat → Int32} {cs : List Nat} {v : Nat} {A : Nat → Nat} {κ : Cz} {μ : Mz} (h : RK B t n k R G p cs v A κ μ) : ∃ (r : Int32) (κ1 : Cz) (μ1 : Mz), p_RuleReader_readValue N (A 15) κ = some κ1 ∧ p12_value N μ = some (r, μ1) ∧ RO A κ μ r κ1 μ1 (∃ s, RK B t n (k + 1) R G p (cs ++ [s]) (v + 1) A κ1 μ1 ∧ ∀ st, tyStep s st = some (false :: st)) := by
  obtain ⟨hJ, hC, hb⟩ := h
  have hs := hJ.1
  have hA := hs.inj
  have hT := hJ.2.1
  have Js := hJ.see
  have h2s : gi 2 (si 2 (nI (plc B t k)) μ) = nI (plc B t k) := gi_si _ _ _
  have Cs := hC.sI (j := 2) (by decide) (by decide) (nI (plc B t k))
  have Ms : MF IS J12 μ (si 2 (nI (plc B t k)) μ) := MF.si (by unfold IS; omega) _ _
  have hle := plc_le B t k
  have ht := hJ.2.2.1.1
  have k5 : fi κ (A 2) 5 = tkK B t (plc B t k) := hT.2.2.2.2.2.2.1
  have k6 : fi κ (A 2) 6 = tkV B t (plc B t k) := hT.2.2.2.2.2.2.2.1
  have hv : fi κ (A 15) 6 = nI v := hC.2.2.2.2.2.2.1
  have h60 : v ≤ 60 := hC.2.2.2.2.2.2.2.2.1
  have hnv : nvL cs ≤ v := hC.2.2.2.2.2.2.2.2.2
  have hn4 := hT.2.2.1
  have hkn4 : k ≤ n := hT.2.2.2.1
  have R0 : p12_value N μ = if plc B t k < t ∧ dgB (B (plc B t k)) = true then bd (p12_numberHere N 0 99999 (si 2 (nI (plc B t k)) μ)) (fun r10 μ10 => if r10 = 0 then some (0, μ10) else bd (p12_makes N (nI (plc B t k)) μ10) (fun r11 μ11 => if r11 = 0 then some (0, μ11) else bo (p12_puts N 0 (gi 4 μ11) μ11) (fun μ12 => some (1, μ12)))) else bd (p12_wordHere N (si 2 (nI (plc B t k)) μ)) (fun r4 μ4 => if 0 ≤ r4 then bd (p12_makes N (nI (plc B t k)) μ4) (fun r5 μ5 => if r5 = 0 then some (0, μ5) else bo (p12_passWord N  μ5) (fun μ6 => bo (p12_puts N 1 r4 μ6) (fun μ7 => some (1, μ7)))) else bd (p12_fails N 0 (nI (plc B t k)) μ4) (fun r8 μ8 => ck (b01 r8) (some (r8, μ8)))) := by
    unfold p12_value
    rw [m_seeJ N hN hJ, bd_s, lt_s9, gi_si, m_isDigit N Js.2.2.1 (by omega), bd_s, ite10]
  rw [R0]
  have nm := m_numberHere N hN Js.2.2.1 hle h2s 0 99999
  rw [skp_plc] at nm
  have wh := m_wordHere N hN Js h2s
  have J3 : gi 3 (si 2 (nI (plc B t k)) μ) = 0 := Js.2.2.2.1
  generalize hμs : si 2 (nI (plc B t k)) μ = μs at *
  by_cases hd : plc B t k < t ∧ dgB (B (plc B t k)) = true
  · rw [if_pos hd]
    rw [if_pos hd] at nm
    obtain ⟨kV, kN⟩ := tk_numV hd
    have hV := nmV_lt B t (plc B t k)
    have hkn := hT.lt hd.1
    have hE : nmE B t (plc B t k) ≤ t := runTo_le _ _ hle
    by_cases h5 : nmE B t (plc B t k) - plc B t k ≤ 5
    · have kk : fi κ (A 2) 5 = 1 := k5.trans (tk_num.1.mpr ⟨hd, h5⟩)
      have nm' : p12_numberHere N 0 99999 μs = some (1, si 4 (nI (nmV B t (plc B t k))) (si 2 (nI (nmE B t (plc B t k))) μs)) := by
        rw [nm]
        unfold nmR
        rw [if_pos ⟨h5, Int32.not_lt.mp (nI_pos (by omega)), show nI (nmV B t (plc B t k)) ≤ nI 99999 from nI_le (by omega) (by omega)⟩]
      have Cn : RC R G cs v A κ (si 4 (nI (nmV B t (plc B t k))) (si 2 (nI (nmE B t (plc B t k))) μs)) := (Cs.sI (by decide) (by decide) _).sI (by decide) (by decide) _
      have Mn : MF IS J12 μ (si 4 (nI (nmV B t (plc B t k))) (si 2 (nI (nmE B t (plc B t k))) μs)) := (Ms.trans (MF.si (by unfold IS; omega) _ _)).trans (MF.si (by unfold IS; omega) _ _)
      have g3 : gi 3 (si 4 (nI (nmV B t (plc B t k))) (si 2 (nI (nmE B t (plc B t k))) μs)) = 0 := by rw [gi_si_ne (by decide), gi_si_ne (by decide)]; exact J3
      have Tn : TxM B t (si 4 (nI (nmV B t (plc B t k))) (si 2 (nI (nmE B t (plc B t k))) μs)) := (Js.2.2.1.si (by decide) _).si (by decide) _
      have mk := m_makes N Cn.2.2.2.2.2.2.2.1 h60 (plc B t k)
      rw [nm', bd_s, if_neg ne10, mk, c_valN N hs kk]
      by_cases q : v = 60
      · subst q
        rw [if_pos rfl, bd_s, if_pos rfl]
        obtain ⟨κ1, e1, f1, c1⟩ := c_fail N hs ht hT (w := 3) (by decide)
        have e1' : p_Tokens_fail N (A 2) 3 κ = some κ1 := e1
        rw [c_77n N hs hv (by decide)]
        refine ⟨0, κ1, _, e1', rfl, lt5_m c1, ?_, Or.inr ⟨rfl, _, FX.of f1 hC c1 (by omega), ?_⟩⟩
        · unfold flt
          rw [if_pos g3]
          exact Mn.trans (MF.si (by unfold IS; omega) _ _)
        · unfold flt
          rw [if_pos g3, gi_si]
      · rw [if_neg q, bd_s, if_neg ne10]
        have hv60 : v < 60 := by omega
        have C1 := Cn.val hv60
        have ga1 : Chg A (fun r => r = 15 ∨ r = 16) κ (sfi (A 15) 6 (nI (v + 1)) κ) := Chg.sfi (L := fun r => r = 15 ∨ r = 16) hA κ (r := 15) (Or.inl rfl) _ _
        have hs1 := hs.chg ga1
        have hp0 : (0 : Int32) + 16 * gi 4 (si 6 (nI (v + 1)) (si 4 (nI (nmV B t (plc B t k))) (si 2 (nI (nmE B t (plc B t k))) μs))) = nI (16 * nmV B t (plc B t k)) := by
          rw [gi_si_ne (by decide), gi_si, show (16 : Int32) = nI 16 from rfl, pk_mul, show (0 : Int32) = nI 0 from rfl, nI_add, Nat.zero_add]
        obtain ⟨κ2, μ2, e2, m2, C2, c2, M2⟩ := put_both N (s := 16 * nmV B t (plc B t k)) hs1 C1 (by omega) 0 _ hp0 (by split <;> omega)
        have hs2 := hs1.chg c2
        have T2 := (hT.chg ga1 (fun r z1 z2 z3 => by omega)).chg c2 (fun r z1 z2 z3 => by omega)
        obtain ⟨κ3, e3, T3, c3⟩ := c_goOn N hs2 T2
        rw [Nat.min_eq_left (by omega)] at T3
        rw [cOf_0 (by omega), show 16 * nmV B t (plc B t k) / 16 = nmV B t (plc B t k) by omega] at e2
        rw [c_77y N hs hv (show nI v < (60 : Int32) from (nI_ltI (b := 60) (by omega) (by omega)).mpr hv60) (Or.inl ⟨rfl, (k6.trans kV).symm⟩) e2 hs2, m2, bo_s]
        have M6 : MF IS J12 μ (si 6 (nI (v + 1)) (si 4 (nI (nmV B t (plc B t k))) (si 2 (nI (nmE B t (plc B t k))) μs))) := Mn.trans (MF.si (by unfold IS; omega) _ _)
        refine ⟨1, κ3, μ2, e3, rfl, ((l1516_m ga1).trans (l1516_m c2)).trans (lt5_m c3), M6.trans M2.j12, Or.inl ⟨rfl, 16 * nmV B t (plc B t k), ⟨?_, C2.chg c3 (by unfold Lt5; omega) (by unfold Lt5; omega), ?_⟩, tyS0 hV⟩⟩
        · refine PJ.next (hs2.chg c3) T3 ⟨ht, ?_, ?_⟩ ?_ hE ?_ kN
          · rw [M2.1 0 id, gi_si_ne (by decide)]; exact Tn.2.1
          · rw [M2.2.1 0 (by unfold J12; omega)]; exact Tn.2.2
          · rw [M2.1 3 id, gi_si_ne (by decide)]; exact g3
          · rw [M2.1 2 id, gi_si_ne (by decide), gi_si_ne (by decide), gi_si]
        · rw [List.length_append]
          simp only [List.length_cons, List.length_nil]
          omega
    · have kk : fi κ (A 2) 5 = 2 := k5.trans (tk_num.2.mpr ⟨hd, h5⟩)
      have nm' : p12_numberHere N 0 99999 μs = some (0, flt 1 (plc B t k) (si 4 (nI (nmV B t (plc B t k))) (si 2 (nI (nmE B t (plc B t k))) μs))) := by
        rw [nm]
        unfold nmR
        rw [if_neg (fun z => h5 z.1)]
      have g3 : gi 3 (si 4 (nI (nmV B t (plc B t k))) (si 2 (nI (nmE B t (plc B t k))) μs)) = 0 := by rw [gi_si_ne (by decide), gi_si_ne (by decide)]; exact J3
      obtain ⟨κ1, e1, f1, c1⟩ := c_fail N hs ht hT (w := 1) (by decide)
      have e1' : p_Tokens_fail N (A 2) 1 κ = some κ1 := e1
      refine ⟨0, κ1, _, by rw [c_valL N hs kk]; exact e1', by rw [nm', bd_s, if_pos rfl], lt5_m c1, ?_, Or.inr ⟨rfl, _, FX.of f1 hC c1 (by omega), ?_⟩⟩
      · unfold flt
        rw [if_pos g3]
        exact ((Ms.trans (MF.si (by unfold IS; omega) _ _)).trans (MF.si (by unfold IS; omega) _ _)).trans (MF.si (by unfold IS; omega) _ _)
      · unfold flt
        rw [if_pos g3, gi_si]
  · rw [if_neg hd]
    have n1 : ¬ tkK B t (plc B t k) = 1 := fun z => hd (tk_num.1.mp z).1
    have n2 : ¬ tkK B t (plc B t k) = 2 := fun z => hd (tk_num.2.mp z).1
    rcases wh with ⟨w, hw, aw, ew⟩ | ⟨aw, ew⟩
    · obtain ⟨kk, kv⟩ := (tk_word (show w < 20 by omega)).mpr aw
      rw [ew, bd_s, if_pos (Int32.not_lt.mp (nI_pos (by omega)))]
      have mk := m_makes N Cs.2.2.2.2.2.2.2.1 h60 (plc B t k)
      rw [mk, c_valW N hs (k5.trans kk) (by rw [k6, kv]; exact nI_ge (b := 12) hw (by omega))]
      by_cases q : v = 60
      · subst q
        rw [if_pos rfl, bd_s, if_pos rfl]
        obtain ⟨κ1, e1, f1, c1⟩ := c_fail N hs ht hT (w := 3) (by decide)
        have e1' : p_Tokens_fail N (A 2) 3 κ = some κ1 := e1
        rw [c_77n N hs hv (by decide)]
        refine ⟨0, κ1, _, e1', rfl, lt5_m c1, ?_, Or.inr ⟨rfl, _, FX.of f1 hC c1 (by omega), ?_⟩⟩
        · unfold flt
          rw [if_pos J3]
          exact Ms.trans (MF.si (by unfold IS; omega) _ _)
        · unfold flt
          rw [if_pos J3, gi_si]
      · rw [if_neg q, bd_s, if_neg ne10]
        have hv60 : v < 60 := by omega
        have J6 := Js.si (j := 6) (by decide) (by decide) (by decide) (nI (v + 1))
        have h26 : gi 2 (si 6 (nI (v + 1)) μs) = nI (plc B t k) := by rw [gi_si_ne (by decide)]; exact h2s
        obtain ⟨_, _, p6, Jw, _⟩ := word_S N hN J6 h26 aw
        rw [p6, bo_s]
        have C1 := (Cs.val hv60).sI (j := 2) (by decide) (by decide) (nI (runTo smB B t (plc B t k)))
        have ga1 : Chg A (fun r => r = 15 ∨ r = 16) κ (sfi (A 15) 6 (nI (v + 1)) κ) := Chg.sfi (L := fun r => r = 15 ∨ r = 16) hA κ (r := 15) (Or.inl rfl) _ _
        have hs1 := hs.chg ga1
        have hp0 : (1 : Int32) + 16 * nI w = nI (1 + 16 * w) := by rw [show (16 : Int32) = nI 16 from rfl, pk_mul, show (1 : Int32) = nI 1 from rfl, nI_add]
        have hlt : plc B t k < t := by
          by_cases z : plc B t k < t
          · exact z
          · exact absurd kk (by rw [tk_end.mpr (by omega)]; decide)
        have hkn := hT.lt hlt
        obtain ⟨κ2, μ2, e2, m2, C2, c2, M2⟩ := put_both N (s := 1 + 16 * w) hs1 C1 (by omega) 1 (nI w) hp0 (by split <;> omega)
        have hs2 := hs1.chg c2
        have T2 := (hT.chg ga1 (fun r z1 z2 z3 => by omega)).chg c2 (fun r z1 z2 z3 => by omega)
        obtain ⟨κ3, e3, T3, c3⟩ := c_goOn N hs2 T2
        rw [Nat.min_eq_left (by omega)] at T3
        rw [cOf_1 (by omega), show (1 + 16 * w) / 16 = w by omega] at e2
        rw [c_77y N hs hv (show nI v < (60 : Int32) from (nI_ltI (b := 60) (by omega) (by omega)).mpr hv60) (Or.inr ⟨ne10, by rw [k6, kv]⟩) e2 hs2, m2, bo_s]
        have M6 : MF IS J12 μ (si 2 (nI (runTo smB B t (plc B t k))) (si 6 (nI (v + 1)) μs)) := (Ms.trans (MF.si (by unfold IS; omega) _ _)).trans (MF.si (by unfold IS; omega) _ _)
        obtain ⟨_, _, Tw, gw3, e, he, ge, se⟩ := Jw
        refine ⟨1, κ3, μ2, e3, rfl, ((l1516_m ga1).trans (l1516_m c2)).trans (lt5_m c3), M6.trans M2.j12, Or.inl ⟨rfl, 1 + 16 * w, ⟨⟨hs2.chg c3, T3, ⟨ht, ?_, ?_⟩, ?_, e, he, ?_, se⟩, C2.chg c3 (by unfold Lt5; omega) (by unfold Lt5; omega), ?_⟩, tyS1 hw⟩⟩
        · rw [M2.1 0 id]; exact Tw.2.1
        · rw [M2.2.1 0 (by unfold J12; omega)]; exact Tw.2.2
        · rw [M2.1 3 id]; exact gw3
        · rw [M2.1 2 id]; exact ge
        · rw [List.length_append]
          simp only [List.length_cons, List.length_nil]
          omega
    · rw [ew, bd_s, if_neg (by decide), m_fails N (w := 0) 0 rfl, bd_s, ck_t b01_0]
      obtain ⟨κ1, e1, f1, c1⟩ := c_fail N hs ht hT (w := 0) (by decide)
      have e1' : p_Tokens_fail N (A 2) 0 κ = some κ1 := e1
      rw [c_valX N hs (by rw [k5]; exact n1) (by rw [k5]; exact n2) (by
        rw [k5, k6]
        intro kk
        obtain ⟨w, hw20, hwv⟩ := tk_w20 kk
        rw [hwv]
        by_cases z : w < 12
        · exact absurd ((tk_word hw20).mp ⟨kk, hwv⟩) (aw w z)
        · exact nI_le (a := 12) (by omega) (by omega))]
      refine ⟨0, κ1, _, e1', rfl, lt5_m c1, ?_, Or.inr ⟨rfl, _, FX.of f1 hC c1 (by omega), ?_⟩⟩
      · unfold flt
        rw [if_pos J3]
        exact Ms.trans (MF.si (by unfold IS; omega) _ _)
      · unfold flt
        rw [if_pos J3, gi_si]
