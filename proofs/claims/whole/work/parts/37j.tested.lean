/-! a rule is read: a whole test; what stands behind a clause -/
theorem test_both (N : Nat) (hN : 20000 ≤ N) {B : Nat → Nat} {t n k R : Nat} {G : Nat → Int32} {cs : List Nat} {v : Nat} {A : Nat → Nat} {κ : Cz} {μ : Mz} (hk : 0 < k) (h : RK B t n k R G 0 cs v A κ μ) : ∃ (r : Int32) (κ1 : Cz) (μ1 : Mz), p_RuleReader_readTest N (A 15) 0 κ = some κ1 ∧ p12_tested N μ = some (r, μ1) ∧ Chg A LSm κ κ1 ∧ MF IT JT μ μ1 ∧ ((r = 1 ∧ ∃ k1 e v1, RK B t n k1 R G 0 (cs ++ e) v1 A κ1 μ1 ∧ k < k1 ∧ ∀ st, tyL e st = some (true :: st)) ∨ (r = 0 ∧ RX A κ1 μ1)) := by
  have hn : n ≤ 400 := h.1.2.1.2.2.1
  have hkn : k ≤ n := h.1.2.1.2.2.2.1
  have T0 : TJ B t n k R G cs v ((opA 0 ++ opO 0) ++ []) A κ (si 7 0 (si 9 0 μ)) := by
    refine ⟨⟨(h.1.si (by decide) (by decide) (by decide) _).si (by decide) (by decide) (by decide) _, (h.2.1.sI (by decide) (by decide) _).sI (by decide) (by decide) _, h.2.2⟩, trivial, ?_, ?_, fun s hs => absurd hs (by show ¬ s ∈ []; simp), by show 0 ≤ 10; omega⟩
    · rw [gi_si_ne (by decide), gi_si]; rfl
    · rw [gi_si]; rfl
  have M0 : MF IT JT μ (si 7 0 (si 9 0 μ)) := (MF.si (by unfold IT IS; omega) _ _).trans (MF.si (by unfold IT IS; omega) _ _)
  have hst0 : ∀ s st', ([] : List Nat) = s :: st' → stg s < 1 := fun s st' z => (nomatch z)
  obtain ⟨κ3, e3, c3, o3⟩ := test_run N hN (fact_all N hN 25) (st := []) hst0 (by show 2 * (10 - 0) + 1 ≤ 25; omega) (r_RuleReader_readTest_RuleReader_readFact N 25).1 500 k v 0 0 0 N (N - 1) N cs κ _ (by omega) (by omega) (by omega) (by omega) (by omega) (by omega) (by omega) (by omega) T0
  have e3' : p_RuleReader_readTest N (A 15) 0 κ = some κ3 := e3
  have E0 : p12_tested N μ = FCT N N (N - 1) (si 7 0 (si 9 0 μ)) := by
    have e : ∀ q, q = (N - 1) + 1 → b12_tested_12 N q 1 (si 7 0 (si 9 0 μ)) = FCT N N (N - 1) (si 7 0 (si 9 0 μ)) := fun q hq => by rw [hq]; exact tested_fct N (N - 1) _
    unfold p12_tested
    rw [lt_s9, lt_s9, e N (by omega)]
  rw [E0]
  rcases o3 with ⟨κ0, μ3, k3, l3, v3, h3, g3, f3, a3, o3, E3, T3, A3, hk3, hh3, hg3, hf3, n18, n17, ty3, M3⟩ | ⟨μ3, E3, X3, M3⟩
  · have hl3 := T3.len
    have lo : ((opA a3 ++ opO o3) ++ ([] : List Nat)).length = (opA a3 ++ opO o3).length := by rw [List.append_nil]
    rw [lo] at hl3 hh3
    obtain ⟨h3, rfl⟩ : ∃ z, h3 = z + 1 := ⟨h3 - 1, by omega⟩
    obtain ⟨g3, rfl⟩ : ∃ z, g3 = z + 1 := ⟨g3 - 1, by omega⟩
    obtain ⟨f3, rfl⟩ : ∃ z, f3 = z + 1 := ⟨f3 - 1, by omega⟩
    have hs0 := T3.1.1.1
    have Ts3 := T3.see
    have h2s3 : gi 2 (si 2 (nI (plc B t k3)) μ3) = nI (plc B t k3) := gi_si _ _ _
    have hA3 : ∀ x, x ∈ opA a3 ++ opO o3 → x ≠ 91 ∧ 1 ≤ stg x ∧ stg x < 3 := by
      intro x hx
      rcases List.mem_append.mp hx with z | z
      · rw [opA_in z]; decide
      · rw [opO_in z]; decide
    have n91 : ¬ 91 ∈ (opA a3 ++ opO o3) ++ ([] : List Nat) := by
      rw [List.append_nil]
      exact fun z => (hA3 91 z).1 rfl
    obtain ⟨κ4, μ4, a4, l4, C4, S4, c4, M4⟩ := lay_all N (least := 1) (by omega) (by omega) hst0 (by show 0 ≤ 400; omega) (opA a3 ++ opO o3) (cs ++ l3) κ0 _ hs0 Ts3.1.2.1 Ts3.2 (by show (cs ++ l3).length + (opA a3 ++ opO o3).length + 0 ≤ 400; omega) (fun x hx => ⟨(hA3 x hx).1, (hA3 x hx).2.1⟩)
    have : κ4 = κ3 := a4.det A3
    subst this
    refine ⟨1, κ4, μ4, e3', ?_, c3, ((M0.trans M3).trans (MF.si (by unfold IT IS; omega) _ _)).trans (m79_t M4), Or.inl ⟨rfl, k3, l3 ++ (opA a3 ++ opO o3), v3, ⟨?_, ?_, ?_⟩, hk3, fun s => ?_⟩⟩
    · rw [E3]
      unfold CLG
      rw [show b12_layDown_0 N (h3 + 1) 3 μ3 = some μ3 from lay_stop N T3.2 (by rw [lo]; omega) (least := 3) (by omega) (by omega) (head_app (least := 3) (fun x hx => (hA3 x hx).2.2) (fun s st' z => (nomatch z))), bo_s, cl5_stop N hN T3 g3 (f3 + 1) (Or.inr n91), aft_w N hN Ts3.1.1 h2s3, if_neg n18, if_neg n17, b12_tested_12, if_pos rfl, m_isInside N hN Ts3.2 (by rw [lo]; omega), bd_s, if_neg n91, if_pos rfl]
      unfold p12_layDown
      rw [show b12_layDown_0 N N 1 (si 2 (nI (plc B t k3)) μ3) = some μ4 from l4 N (by omega), bo_s]
    · exact (Ts3.1.1.mf M4 (by unfold I79; omega) (by unfold I79; omega) (by unfold I79; omega) (by unfold J126; omega)).chg c4 (fun r z1 z2 z3 => by omega)
    · rw [← List.append_assoc]; exact C4
    · rw [← List.append_assoc, List.length_append (as := cs ++ l3)]
      omega
    · have ty3' : tyL l3 s = some (tz ((opA a3 ++ opO o3).length + 1) s) := ty3 s
      rw [tyL_app _ _ _ _ ty3']
      exact tyOps a3 o3 s
  · exact ⟨0, κ3, μ3, e3', E3, c3, M0.trans M3, Or.inr ⟨rfl, X3⟩⟩
/-- a clause of codes: from a to s a sum, from s to b its test -/
def CLs (cs : List Nat) (a s b : Nat) : Prop := a ≤ s ∧ s ≤ b ∧ b ≤ cs.length ∧ tyL ((cs.drop a).take (s - a)) [] = some [false] ∧ (s < b → tyL ((cs.drop s).take (b - s)) [] = some [true])
theorem sub_app {cs e : List Nat} {a b : Nat} (h : a ≤ b) (hb : b ≤ cs.length) : ((cs ++ e).drop a).take (b - a) = (cs.drop a).take (b - a) := by
  rw [List.drop_append_of_le_length (by omega), List.take_append_of_le_length (by rw [List.length_drop]; omega)]
theorem CLs.app {cs : List Nat} {a s b : Nat} (h : CLs cs a s b) (e : List Nat) : CLs (cs ++ e) a s b := by
  obtain ⟨h1, h2, h3, h4, h5⟩ := h
  refine ⟨h1, h2, by rw [List.length_append]; omega, ?_, fun z => ?_⟩
  · rw [sub_app h1 (by omega)]; exact h4
  · rw [sub_app h2 h3]; exact h5 z
theorem CLs.mk {cs e1 e2 : List Nat} (h1 : ∀ st, tyL e1 st = some (false :: st)) (h2 : 0 < e2.length → ∀ st, tyL e2 st = some (true :: st)) : CLs (cs ++ e1 ++ e2) cs.length (cs.length + e1.length) (cs.length + e1.length + e2.length) := by
  refine ⟨by omega, by omega, by rw [List.length_append, List.length_append]; omega, ?_, fun z => ?_⟩
  · rw [List.append_assoc, List.drop_left, show cs.length + e1.length - cs.length = e1.length by omega, List.take_left]
    exact h1 []
  · rw [show cs.length + e1.length = (cs ++ e1).length by rw [List.length_append], List.drop_left, show (cs ++ e1).length + e2.length - (cs ++ e1).length = e2.length by omega, List.take_length]
    exact h2 (by omega) []
/-- the codes alone -/
def RC0 (R : Nat) (G : Nat → Int32) (cs : List Nat) (v : Nat) (A : Nat → Nat) (κ : Cz) (μ : Mz) : Prop := R < 6 ∧ gi 5 μ = nI R ∧ ga 2 μ R = nI cs.length ∧ fi κ (A 15) 4 = nI cs.length ∧ (∀ i s, cs[i]? = some s → ai κ (A 16) i = cOf s ∧ ga 1 μ (400 * R + i) = nI s) ∧ (∀ j, j < 400 * R → ga 1 μ j = G j) ∧ fi κ (A 15) 6 = nI v ∧ gi 6 μ = nI v ∧ v ≤ 60 ∧ nvL cs ≤ v
theorem RC0.to {R : Nat} {G : Nat → Int32} {cs : List Nat} {v c : Nat} {A : Nat → Nat} {κ : Cz} {μ : Mz} (h : RC0 R G cs v A κ μ) (hc : c < 12) (h5 : fi κ (A 15) 5 = nI c) : RC R (upd G 2400 (nI c)) cs v A κ μ := by
  obtain ⟨a1, a2, a3, a4, a5, a6, a7, a8, a9, a10⟩ := h
  exact ⟨a1, a2, a3, a4, a5, ⟨fun j hj => by rw [upd_at, if_neg (by omega)]; exact a6 j hj, by rw [upd_at, if_pos rfl]; exact h5, c, hc, by rw [upd_at, if_pos rfl]⟩, a7, a8, a9, a10⟩
theorem RC.to0 {R : Nat} {G : Nat → Int32} {cs : List Nat} {v c : Nat} {A : Nat → Nat} {κ : Cz} {μ : Mz} (h : RC R (upd G 2400 (nI c)) cs v A κ μ) : RC0 R G cs v A κ μ ∧ fi κ (A 15) 5 = nI c := by
  obtain ⟨a1, a2, a3, a4, a5, ⟨a6, b6, -⟩, a7, a8, a9, a10⟩ := h
  refine ⟨⟨a1, a2, a3, a4, a5, fun j hj => ?_, a7, a8, a9, a10⟩, ?_⟩
  · have := a6 j hj
    rw [upd_at, if_neg (by omega)] at this
    exact this
  · rw [upd_at, if_pos rfl] at b6
    exact b6
/-- the rows of the clauses before c -/
def CR (R c : Nat) (s en : Nat → Nat) (cs : List Nat) (A : Nat → Nat) (κ : Cz) (μ : Mz) : Prop := ∀ i, i < c → ai κ (A 17) i = nI (s i) ∧ ai κ (A 18) i = nI (en (i + 1)) ∧ ga 3 μ (48 * R + 4 * i) = nI (en i) ∧ ga 3 μ (48 * R + 4 * i + 1) = nI (s i) ∧ ga 3 μ (48 * R + 4 * i + 2) = (if s i = en (i + 1) then -1 else nI (s i)) ∧ ga 3 μ (48 * R + 4 * i + 3) = nI (en (i + 1)) ∧ CLs cs (en i) (s i) (en (i + 1))
/-- both stand before clause c of a rule -/
def RM (B : Nat → Nat) (t n k R c : Nat) (G H Q : Nat → Int32) (s en : Nat → Nat) (cs : List Nat) (v : Nat) (A : Nat → Nat) (κ : Cz) (μ : Mz) : Prop := PJ B t n k A κ μ ∧ RC0 R G cs v A κ μ ∧ cs.length ≤ k ∧ c ≤ 12 ∧ fi κ (A 15) 5 = nI c ∧ ga 4 μ R = nI c ∧ gi 8 μ = nI c ∧ en 0 = 0 ∧ en c = cs.length ∧ CR R c s en cs A κ μ ∧ (∀ j, j < 48 * R → ga 3 μ j = H j) ∧ ∀ j, j ≠ R → ga 4 μ j = Q j
def LRu (r : Nat) : Prop := (2 ≤ r ∧ r ≤ 5) ∨ (15 ≤ r ∧ r ≤ 18)
def IRu (k : Nat) : Prop := k = 2 ∨ k = 3 ∨ k = 4 ∨ k = 6 ∨ k = 7 ∨ k = 8 ∨ k = 9
def JRu (k : Nat) : Prop := k = 1 ∨ k = 2 ∨ k = 3 ∨ k = 4 ∨ k = 6
theorem lsm_r {A : Nat → Nat} {κ κ1 : Cz} (g : Chg A LSm κ κ1) : Chg A LRu κ κ1 := g.mono (fun r z => by unfold LSm at z; unfold LRu; omega)
theorem it_r {μ μ1 : Mz} (h : MF IT JT μ μ1) : MF IRu JRu μ μ1 := h.mono (fun _ z => by unfold IT IS at z; unfold IRu; omega) (fun _ z => by unfold JT J12 at z; unfold JRu; omega)
/-- the class's end of a clause -/
theorem c_100 (N : Nat) {A : Nat → Nat} {κ : Cz} {z c : Nat} (hs : Sh κ A) (h4 : fi κ (A 15) 4 = nI z) (h5 : fi κ (A 15) 5 = nI c) (hc : c < 12) (k15 : Nat → Cz → Option (Int32 × Cz)) : b_RuleReader_readRule_100 N k15 (A 15) κ = if fi κ (A 2) 5 = 0 then some (0, sfi (A 15) 5 (nI (c + 1)) (sai (A 18) (upd (ai κ (A 18)) c (nI z)) κ)) else bo (p_Tokens_takeSign N (A 2) 59 (sfi (A 15) 5 (nI (c + 1)) (sai (A 18) (upd (ai κ (A 18)) c (nI z)) κ))) (fun κ49 => k15 (A 15) κ49) := by
  have hA := hs.inj
  have ga1 : Chg A (fun r => r = 15 ∨ r = 18) κ (sfi (A 15) 5 (nI (c + 1)) (sai (A 18) (upd (ai κ (A 18)) c (nI z)) κ)) := (Chg.sai (L := fun r => r = 15 ∨ r = 18) hA κ (r := 18) (Or.inr rfl) _).trans (Chg.sfi (L := fun r => r = 15 ∨ r = 18) hA _ (r := 15) (Or.inl rfl) _ _)
  have hs1 := hs.chg ga1
  have f5 : fi (sfi (A 15) 5 (nI (c + 1)) (sai (A 18) (upd (ai κ (A 18)) c (nI z)) κ)) (A 2) 5 = fi κ (A 2) 5 := by rw [ga1.fi (by omega)]
  unfold b_RuleReader_readRule_100
  simp -implicitDefEqProofs only [hs.rR, ck_1, bo_s, h4, h5, lt_s9, inbT hc (by decide), clN (show c < 2147483648 by omega), fi_ai, nI_1, hs1.rR, hs1.tk, f5]
theorem f_15 (N : Nat) {F c f : Nat} {A : Nat → Nat} {κ : Cz} (hs : Sh κ A) (h : Flt F A κ) : b_RuleReader_readRule_15 N (f + 1) (A 15) κ = some (nI F, κ) := by
  rw [b_RuleReader_readRule_15]
  simp -implicitDefEqProofs only [hs.rR, hs.tk, ck_1, bo_s, f_isWord N hs h, bd_s, if_true, f_fail N hs h, h.1]
  split <;> rfl
