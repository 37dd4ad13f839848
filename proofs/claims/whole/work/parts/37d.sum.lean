/-! a rule is read: a sum -/
def KS (N x1 fs : Nat) (μ : Mz) : Option (Int32 × Mz) := if x1 = 0 then b12_sum_9 N fs μ else bo (p12_puts N (nI x1) 0 μ) (fun μ7 => b12_sum_9 N fs μ7)
def KT (N ft x1 fs : Nat) (μ : Mz) : Option (Int32 × Mz) := bd (b12_term_9 N ft μ) (fun r μ1 => if r = 0 then some (0, μ1) else KS N x1 fs μ1)
def KV (N x2 ft x1 fs : Nat) (μ : Mz) : Option (Int32 × Mz) := bd (p12_value N μ) (fun r μ1 => if r = 0 then some (0, μ1) else if x2 = 0 then KT N ft x1 fs μ1 else bo (p12_puts N (nI x2) 0 μ1) (fun μ9 => KT N ft x1 fs μ9))
theorem bd_bd {α β γ δ ε : Type} (x : Option (α × β)) (f : α → β → Option (γ × δ)) (g : γ → δ → Option ε) : bd (bd x f) g = bd x (fun a b => bd (f a b) g) := by
  cases x with
  | none => rfl
  | some q => rfl
theorem bo_bd {α γ δ ε : Type} (x : Option α) (f : α → Option (γ × δ)) (g : γ → δ → Option ε) : bd (bo x f) g = bo x (fun a => bd (f a) g) := by
  cases x with
  | none => rfl
  | some q => rfl
theorem kt_term (N : Nat) {op ft x1 fs : Nat} (h : op ≠ 0) (μ : Mz) : bd (bd (p12_value N μ) (fun r8 μ8 => if r8 = 0 then some (0, μ8) else bo (p12_puts N (nI op) 0 μ8) (fun μ9 => b12_term_9 N ft μ9))) (fun r μ1 => if r = 0 then some (0, μ1) else KS N x1 fs μ1) = KV N op ft x1 fs μ := by
  rw [bd_bd]
  unfold KV
  congr 1
  funext r μ1
  by_cases q : r = 0
  · rw [if_pos q, if_pos q, bd_s, if_pos rfl]
  · rw [if_neg q, if_neg q, if_neg h, bo_bd]
    rfl
theorem kv_term (N : Nat) {so fs : Nat} (h : so ≠ 0) (μ : Mz) : bd (p12_term N μ) (fun r6 μ6 => if r6 = 0 then some (0, μ6) else bo (p12_puts N (nI so) 0 μ6) (fun μ7 => b12_sum_9 N fs μ7)) = KV N 0 N so fs μ := by
  unfold p12_term
  rw [bd_bd]
  unfold KV
  congr 1
  funext r μ1
  by_cases q : r = 0
  · rw [if_pos q, if_pos q, bd_s, if_pos rfl]
  · rw [if_neg q, if_neg q, if_pos rfl]
    unfold KT
    congr 1
    funext r6 μ6
    unfold KS
    rw [if_neg h]
theorem sum_kv (N : Nat) (μ : Mz) : p12_sum N μ = KV N 0 N 0 N μ := by
  unfold p12_sum p12_term
  rw [bd_bd]
  unfold KV
  congr 1
  funext r μ1
  by_cases q : r = 0
  · rw [if_pos q, if_pos q, bd_s, if_pos rfl]
  · rw [if_neg q, if_neg q, if_pos rfl]
    unfold KT
    congr 1
def pd (x : Nat) : Nat := if x = 0 then 0 else 1
def flz : Nat → List Bool → List Bool
  | 0, st => st
  | n + 1, st => false :: flz n st
theorem flz_c : ∀ (n : Nat) (st : List Bool), flz n (false :: st) = false :: flz n st
  | 0, _ => rfl
  | n + 1, st => by rw [flz, flz, flz_c n st]
theorem tyOp {x : Nat} (h : x = 2 ∨ x = 3 ∨ x = 4 ∨ x = 5 ∨ x = 14) (st : List Bool) : tyStep x (false :: false :: st) = some (false :: st) := by
  rcases h with rfl | rfl | rfl | rfl | rfl <;> rfl
theorem tyL_1 {s : Nat} {st u : List Bool} (h : tyStep s st = some u) : tyL [s] st = some u := by
  rw [tyL, h]
  rfl
theorem tmO_ne {B : Nat → Nat} {t s : Nat} (h : tmO B t s ≠ 0) : s < t ∧ (B s = 42 ∨ B s = 47 ∨ B s = 37) ∧ (tmO B t s = 4 ∨ tmO B t s = 5 ∨ tmO B t s = 14) := by
  unfold tmO at h ⊢
  by_cases w : s < t
  · rw [if_pos w] at h ⊢
    by_cases a : B s = 42
    · rw [if_pos a]; exact ⟨w, Or.inl a, Or.inl rfl⟩
    · rw [if_neg a] at h ⊢
      by_cases b : B s = 47
      · rw [if_pos b]; exact ⟨w, Or.inr (Or.inl b), Or.inr (Or.inl rfl)⟩
      · rw [if_neg b] at h ⊢
        by_cases c : B s = 37
        · rw [if_pos c]; exact ⟨w, Or.inr (Or.inr c), Or.inr (Or.inr rfl)⟩
        · rw [if_neg c] at h; exact absurd rfl h
  · rw [if_neg w] at h; exact absurd rfl h
theorem smO_ne {B : Nat → Nat} {t s : Nat} (h : smO B t s ≠ 0) : s < t ∧ (B s = 43 ∨ B s = 45) ∧ (smO B t s = 2 ∨ smO B t s = 3) := by
  unfold smO at h ⊢
  by_cases w : s < t
  · rw [if_pos w] at h ⊢
    by_cases a : B s = 43
    · rw [if_pos a]; exact ⟨w, Or.inl a, Or.inl rfl⟩
    · rw [if_neg a] at h ⊢
      by_cases b : B s = 45
      · rw [if_pos b]; exact ⟨w, Or.inr b, Or.inr rfl⟩
      · rw [if_neg b] at h; exact absurd rfl h
  · rw [if_neg w] at h; exact absurd rfl h
theorem cOf_z {x : Nat} (h : x = 2 ∨ x = 3 ∨ x = 4 ∨ x = 5 ∨ x = 14) : ¬ cOf x = 0 := by
  rcases h with rfl | rfl | rfl | rfl | rfl <;> decide
/-- a code that waited -/
theorem put_op (N : Nat) {B : Nat → Nat} {t n k R p : Nat} {G : Nat → Int32} {cs : List Nat} {v x : Nat} {A : Nat → Nat} {κ : Cz} {μ : Mz} (h : RK B t n k R G (p + 1) cs v A κ μ) (hx : 2 ≤ x ∧ x < 16) : ∃ κ1 μ1, p_RuleReader_add N (A 15) (cOf x) κ = some κ1 ∧ p12_puts N (nI x) 0 μ = some μ1 ∧ RK B t n k R G p (cs ++ [x]) v A κ1 μ1 ∧ Chg A (fun r => r = 15 ∨ r = 16) κ κ1 ∧ MF (fun _ => False) J12 μ μ1 := by
  obtain ⟨hJ, hC, hb⟩ := h
  have hk : k ≤ n := hJ.2.1.2.2.2.1
  have hn : n ≤ 400 := hJ.2.1.2.2.1
  have hnv : nvL cs ≤ v := hC.2.2.2.2.2.2.2.2.2
  obtain ⟨κ1, μ1, e1, m1, C1, c1, M1⟩ := put_both N (s := x) hJ.1 hC (by omega) (nI x) 0 (by rw [show (16 : Int32) * 0 = nI 0 by decide, nI_add, Nat.add_zero]) (by rw [if_neg (by omega)]; omega)
  refine ⟨κ1, μ1, e1, m1, ⟨?_, C1, by rw [List.length_append]; simp only [List.length_cons, List.length_nil]; omega⟩, c1, M1⟩
  obtain ⟨a1, a2, a3, a4, p, a5, a6, a7⟩ := hJ
  refine ⟨a1.chg c1, a2.chg c1 (fun r z1 z2 z3 => by omega), ⟨a3.1, ?_, ?_⟩, ?_, p, a5, ?_, a7⟩
  · rw [M1.1 0 id]; exact a3.2.1
  · rw [M1.2.1 0 (by unfold J12; omega)]; exact a3.2.2
  · rw [M1.1 3 id]; exact a4
  · rw [M1.1 2 id]; exact a6
theorem RK.see {B : Nat → Nat} {t n k R p : Nat} {G : Nat → Int32} {cs : List Nat} {v : Nat} {A : Nat → Nat} {κ : Cz} {μ : Mz} (h : RK B t n k R G p cs v A κ μ) : RK B t n k R G p cs v A κ (si 2 (nI (plc B t k)) μ) := ⟨h.1.see, h.2.1.sI (by decide) (by decide) _, h.2.2⟩
theorem RK.byt {B : Nat → Nat} {t n k R p : Nat} {G : Nat → Int32} {cs : List Nat} {v : Nat} {A : Nat → Nat} {κ : Cz} {μ : Mz} (h : RK B t n k R G p cs v A κ μ) : ∀ i, i < t → B i < 256 := fun i hi => (h.1.2.2.1.2.2 i hi).1
/-- a sign is passed, it waits -/
theorem RK.sign (N : Nat) {B : Nat → Nat} {t n k R p : Nat} {G : Nat → Int32} {cs : List Nat} {v : Nat} {A : Nat → Nat} {κ : Cz} {μ : Mz} (h : RK B t n k R G p cs v A κ μ) (hst : plc B t k < t) (hg : sgB (B (plc B t k)) = true) (ho : ¬ orS B t (plc B t k) = true) : ∃ κ1, p_Tokens_goOn N (A 2) κ = some κ1 ∧ RK B t n (k + 1) R G (p + 1) cs v A κ1 (si 2 (nI (plc B t k + 1)) μ) ∧ Chg A Lt5 κ κ1 := by
  obtain ⟨κ1, e1, J1, c1⟩ := sign_both N h.1 hst hg ho
  exact ⟨κ1, e1, ⟨J1, (h.2.1.chg c1 (by unfold Lt5; omega) (by unfold Lt5; omega)).sI (by decide) (by decide) _, by have := h.2.2; omega⟩, c1⟩
theorem sum_run (N : Nat) (hN : 20000 ≤ N) {B : Nat → Nat} {t n R q : Nat} {G : Nat → Int32} {A : Nat → Nat} : ∀ (d k v x1 x2 x3 f ft fs : Nat) (cs : List Nat) (κ : Cz) (μ : Mz), n < k + d → d ≤ 1000 → d ≤ f → d ≤ ft → d ≤ fs → (x1 = 0 ∨ x1 = 2 ∨ x1 = 3) → (x2 = 0 ∨ x2 = 4 ∨ x2 = 5 ∨ x2 = 14) → x3 < k → RK B t n k R G (q + pd x1 + pd x2) cs v A κ μ → ∃ (r : Int32) (κ1 : Cz) (μ1 : Mz), b_RuleReader_readSum_6 N f (A 15) (cOf x1) (cOf x2) (nI x3) κ = some κ1 ∧ KV N x2 ft x1 fs μ = some (r, μ1) ∧ RO A κ μ r κ1 μ1 (∃ k1 e v1, RK B t n k1 R G q (cs ++ e) v1 A κ1 μ1 ∧ k < k1 ∧ ∀ st, tyL e (flz (pd x1 + pd x2) st) = some (false :: st)) := by
  intro d
  induction d with
  | zero =>
    intro k v x1 x2 x3 f ft fs cs κ μ hd _ _ _ _ _ _ _ hK
    have hk : k ≤ n := hK.1.2.1.2.2.2.1
    omega
  | succ d ih =>
    intro k v x1 x2 x3 f ft fs cs κ μ hd hd1 hf hft hfs hx1 hx2 hx3 hK
    obtain ⟨f, rfl⟩ : ∃ z, f = z + 1 := ⟨f - 1, by omega⟩
    obtain ⟨ft, rfl⟩ : ∃ z, ft = z + 1 := ⟨ft - 1, by omega⟩
    obtain ⟨fs, rfl⟩ : ∃ z, fs = z + 1 := ⟨fs - 1, by omega⟩
    have hs := hK.1.1
    have hk : k ≤ n := hK.1.2.1.2.2.2.1
    have hn : n ≤ 400 := hK.1.2.1.2.2.1
    have hB := hK.byt
    obtain ⟨r, κ1, μ1, e1, m1, c1, M1, o⟩ := value_both N hN hK
    have hs1 := hs.chg c1
    have isk : isK κ (A 15) 7 = true := hs.rR.1
    have isk1 : isK κ1 (A 15) 7 = true := hs1.rR.1
    rw [b_RuleReader_readSum_6, if_neg (show ¬ (400 : Int32) ≤ nI x3 from nI_ge (b := 400) (by omega) (by omega)), isk, ck_1, e1, bo_s, isk1, ck_1]
    unfold KV
    rw [m1, bd_s]
    rcases o with ⟨rfl, s, K1, ty1⟩ | ⟨rfl, F, fx, g3⟩
    · rw [if_neg ne10]
      have A2 : ∃ (κ2 : Cz) (μ2 : Mz) (e2 : List Nat), (if cOf x2 = 0 then b_RuleReader_readSum_26 N (b_RuleReader_readSum_6 N f) (A 15) (cOf x1) (nI x3) κ1 else bo (p_RuleReader_add N (A 15) (cOf x2) κ1) (fun κ19 => b_RuleReader_readSum_26 N (b_RuleReader_readSum_6 N f) (A 15) (cOf x1) (nI x3) κ19)) = b_RuleReader_readSum_26 N (b_RuleReader_readSum_6 N f) (A 15) (cOf x1) (nI x3) κ2 ∧ (if x2 = 0 then KT N (ft + 1) x1 (fs + 1) μ1 else bo (p12_puts N (nI x2) 0 μ1) (fun μ9 => KT N (ft + 1) x1 (fs + 1) μ9)) = KT N (ft + 1) x1 (fs + 1) μ2 ∧ RK B t n (k + 1) R G (q + pd x1) (cs ++ e2) (v + 1) A κ2 μ2 ∧ (∀ st, tyL e2 (flz (pd x1 + pd x2) st) = some (flz (pd x1 + 1) st)) ∧ Chg A LSm κ κ2 ∧ MF IS J12 μ μ2 := by
        by_cases z : x2 = 0
        · subst z
          refine ⟨κ1, μ1, [s], by rw [if_pos (show cOf 0 = 0 from rfl)], by rw [if_pos rfl], K1, fun st => tyL_1 (ty1 _), c1, M1⟩
        · have hx : x2 = 4 ∨ x2 = 5 ∨ x2 = 14 := by omega
          rw [show pd x2 = 1 from if_neg z] at K1 ⊢
          obtain ⟨κ2, μ2, e2, m2, K2, c2, M2⟩ := put_op N (x := x2) K1 (by omega)
          refine ⟨κ2, μ2, [s] ++ [x2], by rw [if_neg (cOf_z (by omega)), e2, bo_s], by rw [if_neg z, m2, bo_s], by rw [← List.append_assoc]; exact K2, fun st => ?_, c1.trans (l1516_m c2), M1.trans M2.j12⟩
          rw [tyL_app _ _ _ _ (tyL_1 (ty1 _))]
          exact tyL_1 (tyOp (by omega) _)
      obtain ⟨κ2, μ2, e2, E2, F2, K2, ty2, c2, M2⟩ := A2
      rw [E2, F2]
      have hs2 := K2.1.1
      have T2 := K2.1.2.1
      have ct := c_codeTerm N hs2 hB T2
      unfold b_RuleReader_readSum_26 KT
      rw [m_term9 N hN K2.1]
      have isk2 : isK κ2 (A 15) 7 = true := hs2.rR.1
      rw [isk2, ck_1, ct, bd_s]
      by_cases op : tmO B t (plc B t (k + 1)) = 0
      · rw [op, if_pos (show cOf 0 = 0 from rfl), if_pos rfl, bd_s, if_neg ne10, show cOf 0 = 0 from rfl]
        have A3 : ∃ (κ3 : Cz) (μ3 : Mz) (e3 : List Nat), (if cOf x1 = 0 then b_RuleReader_readSum_44 N (b_RuleReader_readSum_6 N f) (A 15) 0 (nI x3) κ2 else ck (isK κ2 (A 15) 7) (bo (p_RuleReader_add N (A 15) (cOf x1) κ2) (fun κ17 => b_RuleReader_readSum_44 N (b_RuleReader_readSum_6 N f) (A 15) 0 (nI x3) κ17))) = b_RuleReader_readSum_44 N (b_RuleReader_readSum_6 N f) (A 15) 0 (nI x3) κ3 ∧ KS N x1 (fs + 1) (si 2 (nI (plc B t (k + 1))) μ2) = b12_sum_9 N (fs + 1) μ3 ∧ RK B t n (k + 1) R G q (cs ++ e3) (v + 1) A κ3 μ3 ∧ (∀ st, tyL e3 (flz (pd x1 + pd x2) st) = some (false :: st)) ∧ Chg A LSm κ κ3 ∧ MF IS J12 μ μ3 := by
          have Ks := K2.see
          have Ms : MF IS J12 μ (si 2 (nI (plc B t (k + 1))) μ2) := M2.trans (MF.si (by unfold IS; omega) _ _)
          by_cases z : x1 = 0
          · subst z
            exact ⟨κ2, _, e2, by rw [if_pos (show cOf 0 = 0 from rfl)], by unfold KS; rw [if_pos rfl], Ks, fun st => ty2 st, c2, Ms⟩
          · have hx : x1 = 2 ∨ x1 = 3 := by omega
            have p1 : pd x1 = 1 := if_neg z
            rw [p1] at Ks ty2
            obtain ⟨κ3, μ3, e3, m3, K3, c3, M3⟩ := put_op N (x := x1) Ks (by omega)
            refine ⟨κ3, μ3, e2 ++ [x1], by rw [if_neg (cOf_z (by omega)), isk2, ck_1, e3, bo_s], by unfold KS; rw [if_neg z, m3, bo_s], by rw [← List.append_assoc]; exact K3, fun st => ?_, c2.trans (l1516_m c3), Ms.trans M3.j12⟩
            rw [p1, tyL_app _ _ _ _ (ty2 st)]
            exact tyL_1 (tyOp (by omega) _)
        obtain ⟨κ3, μ3, e3, E3, F3, K3, ty3, c3, M3⟩ := A3
        rw [E3, F3, m_sum9 N hN K3.1]
        have hs3 := K3.1.1
        have T3 := K3.1.2.1
        have cu := c_codeSum N hs3 hB T3
        have isk3 : isK κ3 (A 15) 7 = true := hs3.rR.1
        unfold b_RuleReader_readSum_44
        rw [isk3, ck_1, cu, bd_s]
        by_cases so : smO B t (plc B t (k + 1)) = 0
        · rw [so, if_pos (show cOf 0 = 0 from rfl), if_pos rfl]
          exact ⟨1, κ3, _, rfl, rfl, c3, M3.trans (MF.si (by unfold IS; omega) _ _), Or.inl ⟨rfl, k + 1, e3, v + 1, K3.see, by omega, ty3⟩⟩
        · obtain ⟨s1, s2, s3⟩ := smO_ne so
          rw [if_neg (cOf_z (by omega)), if_neg so, kv_term N so]
          obtain ⟨κ4, e4, K4, c4⟩ := K3.sign N s1 (by rcases s2 with z | z <;> rw [z] <;> decide) (fun z => by have := (orS_b z).1; omega)
          have hs4 := K4.1.1
          simp -implicitDefEqProofs only [hs3.rR, hs3.tk, bo_s, ck_1, e4, lt_s9, nI_1]
          have K4' : RK B t n (k + 1 + 1) R G (q + pd (smO B t (plc B t (k + 1))) + pd 0) (cs ++ e3) (v + 1) A κ4 (si 2 (nI (plc B t (k + 1) + 1)) μ3) := by
            rw [show pd (smO B t (plc B t (k + 1))) = 1 from if_neg so]
            exact K4
          obtain ⟨r, κ5, μ5, e5, m5, c5, M5, o5⟩ := ih (k + 1 + 1) (v + 1) (smO B t (plc B t (k + 1))) 0 (x3 + 1) f N fs (cs ++ e3) κ4 _ (by omega) (by omega) (by omega) (by omega) (by omega) (by omega) (Or.inl rfl) (by omega) K4'
          refine ⟨r, κ5, μ5, e5, m5, (c3.trans (lt5_m c4)).trans c5, (M3.trans (MF.si (by unfold IS; omega) _ _)).trans M5, o5.imp (fun z => ⟨z.1, ?_⟩) id⟩
          obtain ⟨-, k1, e, v1, K6, h6, ty6⟩ := z
          refine ⟨k1, e3 ++ e, v1, by rw [← List.append_assoc]; exact K6, by omega, fun st => ?_⟩
          rw [tyL_app _ _ _ _ (ty3 st)]
          have := ty6 st
          rw [show pd (smO B t (plc B t (k + 1))) = 1 from if_neg so] at this
          exact this
      · obtain ⟨s1, s2, s3⟩ := tmO_ne op
        rw [if_neg (cOf_z (by omega)), if_neg op, kt_term N op]
        obtain ⟨κ4, e4, K4, c4⟩ := K2.sign N s1 (by rcases s2 with z | z | z <;> rw [z] <;> decide) (fun z => by have := (orS_b z).1; omega)
        have hs4 := K4.1.1
        simp -implicitDefEqProofs only [hs2.rR, hs2.tk, bo_s, ck_1, e4, lt_s9, nI_1]
        have K4' : RK B t n (k + 1 + 1) R G (q + pd x1 + pd (tmO B t (plc B t (k + 1)))) (cs ++ e2) (v + 1) A κ4 (si 2 (nI (plc B t (k + 1) + 1)) μ2) := by
          rw [show pd (tmO B t (plc B t (k + 1))) = 1 from if_neg op]
          exact K4
        obtain ⟨r, κ5, μ5, e5, m5, c5, M5, o5⟩ := ih (k + 1 + 1) (v + 1) x1 (tmO B t (plc B t (k + 1))) (x3 + 1) f ft (fs + 1) (cs ++ e2) κ4 _ (by omega) (by omega) (by omega) (by omega) (by omega) hx1 (by omega) (by omega) K4'
        refine ⟨r, κ5, μ5, e5, m5, (c2.trans (lt5_m c4)).trans c5, (M2.trans (MF.si (by unfold IS; omega) _ _)).trans M5, o5.imp (fun z => ⟨z.1, ?_⟩) id⟩
        obtain ⟨-, k1, e, v1, K6, h6, ty6⟩ := z
        refine ⟨k1, e2 ++ e, v1, by rw [← List.append_assoc]; exact K6, by omega, fun st => ?_⟩
        rw [tyL_app _ _ _ _ (ty2 st)]
        have := ty6 st
        rw [show pd (tmO B t (plc B t (k + 1))) = 1 from if_neg op] at this
        exact this
    · rw [if_pos rfl]
      by_cases z : cOf x2 = 0
      · obtain ⟨κ2, e2, f2, c2⟩ := f_sum26 N hs1 fx (b_RuleReader_readSum_6 N f) (cOf x1) (nI x3)
        rw [if_pos z, e2]
        exact ⟨0, κ2, μ1, rfl, rfl, c1.trans (l1516_m c2), M1, Or.inr ⟨rfl, F, f2, g3⟩⟩
      · obtain ⟨κ2, e2, f2, c2⟩ := f_add N hs1 fx (cOf x2)
        obtain ⟨κ3, e3, f3, c3⟩ := f_sum26 N (hs1.chg c2) f2 (b_RuleReader_readSum_6 N f) (cOf x1) (nI x3)
        rw [if_neg z, e2, bo_s, e3]
        exact ⟨0, κ3, μ1, rfl, rfl, (c1.trans (l1516_m c2)).trans (l1516_m c3), M1, Or.inr ⟨rfl, F, f3, g3⟩⟩
/-- a sum, both -/
theorem sum_both (N : Nat) (hN : 20000 ≤ N) {B : Nat → Nat} {t n k R q : Nat} {G : Nat → Int32} {cs : List Nat} {v : Nat} {A : Nat → Nat} {κ : Cz} {μ : Mz} (hk : 0 < k) (h : RK B t n k R G q cs v A κ μ) : ∃ (r : Int32) (κ1 : Cz) (μ1 : Mz), p_RuleReader_readSum N (A 15) κ = some κ1 ∧ p12_sum N μ = some (r, μ1) ∧ RO A κ μ r κ1 μ1 (∃ k1 e v1, RK B t n k1 R G q (cs ++ e) v1 A κ1 μ1 ∧ k < k1 ∧ ∀ st, tyL e st = some (false :: st)) := by
  have hn : n ≤ 400 := h.1.2.1.2.2.1
  rw [sum_kv]
  exact sum_run N hN 500 k v 0 0 0 N N N cs κ μ (by omega) (by omega) (by omega) (by omega) (by omega) (Or.inl rfl) (Or.inl rfl) hk h
