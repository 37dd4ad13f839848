/-! a rule is read: the codes of both -/
def tyL : List Nat → List Bool → Option (List Bool)
  | [], st => some st
  | s :: l, st => match tyStep s st with
    | some t => tyL l t
    | none => none
theorem tyL_app : ∀ (a b : List Nat) (st u : List Bool), tyL a st = some u → tyL (a ++ b) st = tyL b u
  | [], b, st, u, h => by
    rw [tyL] at h
    cases h
    rfl
  | s :: l, b, st, u, h => by
    rw [List.cons_append, tyL]
    rw [tyL] at h
    cases hs : tyStep s st with
    | none => rw [hs] at h; exact absurd h (fun z => (nomatch z))
    | some w =>
      rw [hs] at h
      exact tyL_app l b w u h
def nvL : List Nat → Nat
  | [] => 0
  | s :: l => (if s % 16 < 2 then 1 else 0) + nvL l
theorem nvL_app : ∀ (a b : List Nat), nvL (a ++ b) = nvL a + nvL b
  | [], b => by rw [List.nil_append, nvL, Nat.zero_add]
  | s :: l, b => by rw [List.cons_append, nvL, nvL, nvL_app l b, Nat.add_assoc]
/-- the codes that stand, of text R; before it the signs are G's -/
def RC (R : Nat) (G : Nat → Int32) (cs : List Nat) (v : Nat) (A : Nat → Nat) (κ : Cz) (μ : Mz) : Prop := R < 6 ∧ gi 5 μ = nI R ∧ ga 2 μ R = nI cs.length ∧ fi κ (A 15) 4 = nI cs.length ∧ (∀ i s, cs[i]? = some s → ai κ (A 16) i = cOf s ∧ ga 1 μ (400 * R + i) = nI s) ∧ ((∀ j, j < 400 * R → ga 1 μ j = G j) ∧ fi κ (A 15) 5 = G 2400 ∧ ∃ c, c < 12 ∧ G 2400 = nI c) ∧ fi κ (A 15) 6 = nI v ∧ gi 6 μ = nI v ∧ v ≤ 60 ∧ nvL cs ≤ v
def LSm (r : Nat) : Prop := (2 ≤ r ∧ r ≤ 5) ∨ r = 15 ∨ r = 16
def IS (k : Nat) : Prop := k = 2 ∨ k = 3 ∨ k = 4 ∨ k = 6
def J12 (k : Nat) : Prop := k = 1 ∨ k = 2
theorem RC.chg {R : Nat} {G : Nat → Int32} {cs : List Nat} {v : Nat} {A : Nat → Nat} {κ κ1 : Cz} {μ : Mz} {L : Nat → Prop} (h : RC R G cs v A κ μ) (g : Chg A L κ κ1) (n1 : ¬ L 15) (n2 : ¬ L 16) : RC R G cs v A κ1 μ := by
  unfold RC
  rw [g.fi n1, g.ai n2]
  exact h
theorem RC.mf {R : Nat} {G : Nat → Int32} {cs : List Nat} {v : Nat} {A : Nat → Nat} {κ : Cz} {μ μ1 : Mz} {I J : Nat → Prop} (h : RC R G cs v A κ μ) (g : MF I J μ μ1) (n1 : ¬ I 5) (n2 : ¬ I 6) (n3 : ¬ J 1) (n4 : ¬ J 2) : RC R G cs v A κ μ1 := by
  unfold RC
  rw [g.1 5 n1, g.1 6 n2, g.2.1 1 n3, g.2.1 2 n4]
  exact h
theorem RC.sI {R : Nat} {G : Nat → Int32} {cs : List Nat} {v : Nat} {A : Nat → Nat} {κ : Cz} {μ : Mz} (h : RC R G cs v A κ μ) {j : Nat} (h5 : j ≠ 5) (h6 : j ≠ 6) (x : Int32) : RC R G cs v A κ (si j x μ) := h.mf (I := fun k => k = j) (J := fun _ => False) (MF.si (I := fun k => k = j) (k := j) rfl _ _) (fun z => h5 z.symm) (fun z => h6 z.symm) id id
/-- one code more, both -/
theorem put_both (N : Nat) {R : Nat} {G : Nat → Int32} {cs : List Nat} {v s : Nat} {A : Nat → Nat} {κ : Cz} {μ : Mz} (hs : Sh κ A) (h : RC R G cs v A κ μ) (hl : cs.length < 400) (a1 a2 : Int32) (ha : a1 + 16 * a2 = nI s) (hn : nvL cs + (if s % 16 < 2 then 1 else 0) ≤ v) : ∃ κ1 μ1, p_RuleReader_add N (A 15) (cOf s) κ = some κ1 ∧ p12_puts N a1 a2 μ = some μ1 ∧ RC R G (cs ++ [s]) v A κ1 μ1 ∧ Chg A (fun r => r = 15 ∨ r = 16) κ κ1 ∧ MF (fun _ => False) J12 μ μ1 := by
  have hA := hs.inj
  obtain ⟨hR, h5, h2, h4, hc, hG, hv, hv6, h60, hnv⟩ := h
  have e4 : (400 : Int32) * nI R + nI cs.length = nI (400 * R + cs.length) := by rw [show (400 : Int32) = nI 400 from rfl, pk_mul, nI_add]
  refine ⟨sfi (A 15) 4 (nI (cs.length + 1)) (sai (A 16) (upd (ai κ (A 16)) cs.length (cOf s)) κ), sa 2 (upd (ga 2 μ) R (nI (cs.length + 1))) (sa 1 (upd (ga 1 μ) (400 * R + cs.length) (nI s)) μ), ?_, ?_, ⟨hR, h5, ?_, ?_, fun i x hi => ?_, ⟨fun j hj => ?_, ?_, hG.2.2⟩, ?_, hv6, h60, ?_⟩, ?_, ?_⟩
  · unfold p_RuleReader_add
    simp -implicitDefEqProofs only [hs.rR, ck_1, bo_s, h4, lt_s9, isK_ai, fi_ai, inbT hl (by decide), clN (show cs.length < 2147483648 by omega), nI_1]
    rw [if_neg (nI_ge hl (by omega))]
  · unfold p12_puts
    simp -implicitDefEqProofs only [lt_s9, h5, inbT (show R < 7 by omega) (by decide), ck_1, clN (show R < 2147483648 by omega), h2, e4, inbT (show 400 * R + cs.length < 2400 by omega) (by decide), clN (show 400 * R + cs.length < 2147483648 by omega), ha, gi_sa, ga_sa_ne (show 2 ≠ 1 by decide), nI_1]
  · rw [ga_sa, upd_at, if_pos rfl, List.length_append]
    rfl
  · rw [fi_fi, if_pos ⟨rfl, rfl⟩, List.length_append]
    rfl
  · rw [ai_fi, ai_ai, if_pos rfl, upd_at, ga_sa_ne (by decide), ga_sa, upd_at]
    by_cases q : i < cs.length
    · rw [List.getElem?_append_left q] at hi
      rw [if_neg (by omega), if_neg (by omega)]
      exact hc i x hi
    · rw [List.getElem?_append_right (by omega)] at hi
      by_cases q2 : i = cs.length
      · subst q2
        rw [Nat.sub_self] at hi
        have : s = x := Option.some.inj hi
        subst this
        rw [if_pos rfl, if_pos rfl]
        exact ⟨rfl, rfl⟩
      · rw [List.getElem?_eq_none (by simp only [List.length_cons, List.length_nil]; omega)] at hi
        exact absurd hi (fun z => (nomatch z))
  · rw [ga_sa_ne (by decide), ga_sa, upd_at, if_neg (by omega)]
    exact hG.1 j hj
  · rw [fi_fi, if_neg (by simp), fi_ai]
    exact hG.2.1
  · rw [fi_fi, if_neg (by simp), fi_ai]
    exact hv
  · rw [nvL_app, nvL, nvL]
    omega
  · exact (Chg.sai (L := fun r => r = 15 ∨ r = 16) hA κ (r := 16) (Or.inr rfl) _).trans (Chg.sfi (L := fun r => r = 15 ∨ r = 16) hA _ (r := 15) (Or.inl rfl) _ _)
  · have M1 : MF (fun _ => False) J12 μ (sa 1 (upd (ga 1 μ) (400 * R + cs.length) (nI s)) μ) := ⟨fun _ _ => rfl, fun k hk => ga_sa_ne (fun (z : k = 1) => hk (by unfold J12; omega)) _ _, fun _ => rfl, fun _ R' j hR' e5 hj => by
      have : R' = R := (nI_eq (by omega) (by omega)).mp (e5.symm.trans h5)
      subst this
      rw [ga_sa, upd_at, if_neg (by omega)]⟩
    exact M1.trans (MF.sa (by unfold J12; omega) _ _)
/-- one value more -/
theorem RC.val {R : Nat} {G : Nat → Int32} {cs : List Nat} {v : Nat} {A : Nat → Nat} {κ : Cz} {μ : Mz} (h : RC R G cs v A κ μ) (hv : v < 60) : RC R G cs (v + 1) A (sfi (A 15) 6 (nI (v + 1)) κ) (si 6 (nI (v + 1)) μ) := by
  obtain ⟨hR, h5, h2, h4, hc, hG, hv', hv6, h60, hnv⟩ := h
  exact ⟨hR, by rw [gi_si_ne (by decide)]; exact h5, h2, by rw [fi_fi, if_neg (by simp)]; exact h4, hc, ⟨hG.1, by rw [fi_fi, if_neg (by simp)]; exact hG.2.1, hG.2.2⟩, by rw [fi_fi, if_pos ⟨rfl, rfl⟩], gi_si _ _ _, by omega, by omega⟩
/-- both stand at token k of a rule's text; p tokens wait -/
def RK (B : Nat → Nat) (t n k R : Nat) (G : Nat → Int32) (p : Nat) (cs : List Nat) (v : Nat) (A : Nat → Nat) (κ : Cz) (μ : Mz) : Prop := PJ B t n k A κ μ ∧ RC R G cs v A κ μ ∧ cs.length + p ≤ k
/-- both fail alike -/
def FX (F : Nat) (A : Nat → Nat) (κ : Cz) : Prop := Flt F A κ ∧ (∃ z, z ≤ 400 ∧ fi κ (A 15) 4 = nI z) ∧ ∃ c, c < 12 ∧ fi κ (A 15) 5 = nI c
def RX (A : Nat → Nat) (κ1 : Cz) (μ1 : Mz) : Prop := ∃ F, FX F A κ1 ∧ gi 3 μ1 = nI F
theorem FX.of {F : Nat} {R : Nat} {G : Nat → Int32} {cs : List Nat} {v : Nat} {A : Nat → Nat} {κ κ1 : Cz} {μ : Mz} (f : Flt F A κ1) (h : RC R G cs v A κ μ) (c : Chg A Lt5 κ κ1) (hl : cs.length ≤ 400) : FX F A κ1 := by
  obtain ⟨q, hq, eq⟩ := h.2.2.2.2.2.1.2.2
  exact ⟨f, ⟨cs.length, hl, by rw [c.fi (by unfold Lt5; omega)]; exact h.2.2.2.1⟩, q, hq, by rw [c.fi (by unfold Lt5; omega)]; exact h.2.2.2.2.2.1.2.1.trans eq⟩
theorem PJ.next {B : Nat → Nat} {t n k e : Nat} {A : Nat → Nat} {κ : Cz} {μ : Mz} (hs : Sh κ A) (hT : Tks B t n (k + 1) A κ) (hx : TxM B t μ) (h3 : gi 3 μ = 0) (he : e ≤ t) (h2 : gi 2 μ = nI e) (hn : tkN B t (plc B t k) = e) : PJ B t n (k + 1) A κ μ := ⟨hs, hT, hx, h3, e, he, h2, by rw [plc, hn]⟩
theorem m_wordHere (N : Nat) (hN : 20000 ≤ N) {B : Nat → Nat} {t n k : Nat} {A : Nat → Nat} {κ : Cz} {μ : Mz} (hJ : PJ B t n k A κ μ) (h2 : gi 2 μ = nI (plc B t k)) : (∃ w, w < 12 ∧ isW B t (plc B t k) (CD w) = true ∧ p12_wordHere N μ = some (nI w, μ)) ∨ (∀ w, w < 12 → ¬ isW B t (plc B t k) (CD w) = true) ∧ p12_wordHere N μ = some (-1, μ) := by
  have w0 := m_wordS N hN hJ h2 119183001281906 (code := CD 0) (by decide) (by decide)
  have w1 := m_wordS N hN hJ h2 7370100 (code := CD 1) (by decide) (by decide)
  have w2 := m_wordS N hN hJ h2 469852319348 (code := CD 2) (by decide) (by decide)
  have w3 := m_wordS N hN hJ h2 1870030194 (code := CD 3) (by decide) (by decide)
  have w4 := m_wordS N hN hJ h2 465726042981 (code := CD 4) (by decide) (by decide)
  have w5 := m_wordS N hN hJ h2 513021013607 (code := CD 5) (by decide) (by decide)
  have w6 := m_wordS N hN hJ h2 1885432164 (code := CD 6) (by decide) (by decide)
  have w7 := m_wordS N hN hJ h2 483006772069 (code := CD 7) (by decide) (by decide)
  have w8 := m_wordS N hN hJ h2 1870095716 (code := CD 8) (by decide) (by decide)
  have w9 := m_wordS N hN hJ h2 1718775661 (code := CD 9) (by decide) (by decide)
  have w10 := m_wordS N hN hJ h2 29807 (code := CD 10) (by decide) (by decide)
  have w11 := m_wordS N hN hJ h2 28539376735186798 (code := CD 11) (by decide) (by decide)
  unfold p12_wordHere
  rw [w0, bd_s, ite10, w1, bd_s, ite10, w2, bd_s, ite10, w3, bd_s, ite10, w4, bd_s, ite10, w5, bd_s, ite10, w6, bd_s, ite10, w7, bd_s, ite10, w8, bd_s, ite10, w9, bd_s, ite10, w10, bd_s, ite10, w11, bd_s, ite10]
  by_cases a0 : isW B t (plc B t k) (CD 0) = true
  · exact Or.inl ⟨0, by decide, a0, by rw [if_pos a0]; rfl⟩
  rw [if_neg a0]
  by_cases a1 : isW B t (plc B t k) (CD 1) = true
  · exact Or.inl ⟨1, by decide, a1, by rw [if_pos a1]; rfl⟩
  rw [if_neg a1]
  by_cases a2 : isW B t (plc B t k) (CD 2) = true
  · exact Or.inl ⟨2, by decide, a2, by rw [if_pos a2]; rfl⟩
  rw [if_neg a2]
  by_cases a3 : isW B t (plc B t k) (CD 3) = true
  · exact Or.inl ⟨3, by decide, a3, by rw [if_pos a3]; rfl⟩
  rw [if_neg a3]
  by_cases a4 : isW B t (plc B t k) (CD 4) = true
  · exact Or.inl ⟨4, by decide, a4, by rw [if_pos a4]; rfl⟩
  rw [if_neg a4]
  by_cases a5 : isW B t (plc B t k) (CD 5) = true
  · exact Or.inl ⟨5, by decide, a5, by rw [if_pos a5]; rfl⟩
  rw [if_neg a5]
  by_cases a6 : isW B t (plc B t k) (CD 6) = true
  · exact Or.inl ⟨6, by decide, a6, by rw [if_pos a6]; rfl⟩
  rw [if_neg a6]
  by_cases a7 : isW B t (plc B t k) (CD 7) = true
  · exact Or.inl ⟨7, by decide, a7, by rw [if_pos a7]; rfl⟩
  rw [if_neg a7]
  by_cases a8 : isW B t (plc B t k) (CD 8) = true
  · exact Or.inl ⟨8, by decide, a8, by rw [if_pos a8]; rfl⟩
  rw [if_neg a8]
  by_cases a9 : isW B t (plc B t k) (CD 9) = true
  · exact Or.inl ⟨9, by decide, a9, by rw [if_pos a9]; rfl⟩
  rw [if_neg a9]
  by_cases a10 : isW B t (plc B t k) (CD 10) = true
  · exact Or.inl ⟨10, by decide, a10, by rw [if_pos a10]; rfl⟩
  rw [if_neg a10]
  by_cases a11 : isW B t (plc B t k) (CD 11) = true
  · exact Or.inl ⟨11, by decide, a11, by rw [if_pos a11]; rfl⟩
  rw [if_neg a11]
  refine Or.inr ⟨fun w hw => ?_, rfl⟩
  match w, hw with
  | 0, _ => exact a0
  | 1, _ => exact a1
  | 2, _ => exact a2
  | 3, _ => exact a3
  | 4, _ => exact a4
  | 5, _ => exact a5
  | 6, _ => exact a6
  | 7, _ => exact a7
  | 8, _ => exact a8
  | 9, _ => exact a9
  | 10, _ => exact a10
  | 11, _ => exact a11
