/-! a rule is read: what is open -/
def SOa (f : Nat → Int32) : List Nat → Prop
  | [] => True
  | s :: st => f st.length = nI s ∧ SOa f st
def dpL : List Nat → Nat
  | [] => 0
  | s :: st => (if s = 11 ∨ s = 91 then 1 else 0) + dpL st
def Op4 (s : Nat) : Prop := s = 11 ∨ s = 12 ∨ s = 13 ∨ s = 91
def SS (st : List Nat) (μ : Mz) : Prop := SOa (ga 6 μ) st ∧ gi 9 μ = nI st.length ∧ gi 7 μ = nI (dpL st) ∧ (∀ s, s ∈ st → Op4 s) ∧ dpL st ≤ 10
theorem SOa_upd {f : Nat → Int32} {j : Nat} {x : Int32} : ∀ {st : List Nat}, SOa f st → st.length ≤ j → SOa (upd f j x) st
  | [], _, _ => trivial
  | s :: st, h, hj => by
    have hj' : st.length < j := hj
    exact ⟨by rw [upd_at, if_neg (by omega)]; exact h.1, SOa_upd h.2 (by omega)⟩
theorem SS.mf {st : List Nat} {μ μ1 : Mz} {I J : Nat → Prop} (h : SS st μ) (g : MF I J μ μ1) (n9 : ¬ I 9) (n7 : ¬ I 7) (n6 : ¬ J 6) : SS st μ1 := by
  unfold SS
  rw [g.1 9 n9, g.1 7 n7, g.2.1 6 n6]
  exact h
def stg (s : Nat) : Nat := if s = 13 then 1 else if s = 12 then 2 else if s = 11 then 3 else 0
theorem stg_lt (s : Nat) : stg s < 4 := by
  unfold stg
  split
  · omega
  · split
    · omega
    · split <;> omega
theorem m_strength (N : Nat) {s : Nat} (h : Op4 s) : p12_strength N (nI s) = some (nI (stg s)) := by
  unfold p12_strength
  rcases h with rfl | rfl | rfl | rfl <;> rfl
def IT (k : Nat) : Prop := IS k ∨ k = 7 ∨ k = 9
def JT (k : Nat) : Prop := J12 k ∨ k = 6
theorem is_t {μ μ1 : Mz} (h : MF IS J12 μ μ1) : MF IT JT μ μ1 := h.mono (fun _ z => Or.inl z) (fun _ z => Or.inl z)
/-- both stand at token k of a test, st is open -/
def TJ (B : Nat → Nat) (t n k R : Nat) (G : Nat → Int32) (cs : List Nat) (v : Nat) (st : List Nat) (A : Nat → Nat) (κ : Cz) (μ : Mz) : Prop := RK B t n k R G st.length cs v A κ μ ∧ SS st μ
theorem TJ.see {B : Nat → Nat} {t n k R : Nat} {G : Nat → Int32} {cs : List Nat} {v : Nat} {st : List Nat} {A : Nat → Nat} {κ : Cz} {μ : Mz} (h : TJ B t n k R G cs v st A κ μ) : TJ B t n k R G cs v st A κ (si 2 (nI (plc B t k)) μ) := ⟨h.1.see, h.2.mf (I := fun k => k = 2) (J := fun _ => False) (MF.si (I := fun k => k = 2) (k := 2) rfl _ _) (by decide) (by decide) id⟩
/-- nothing is laid down -/
theorem lay_stop (N : Nat) {st : List Nat} {μ : Mz} {f least : Nat} (h : SS st μ) (hl : st.length ≤ 400) (h0 : 0 < least) (h3 : least < 4) (hs : ∀ s st', st = s :: st' → stg s < least) : b12_layDown_0 N (f + 1) (nI least) μ = some μ := by
  obtain ⟨h1, h9, -, h4, -⟩ := h
  rw [b12_layDown_0, h9]
  cases st with
  | nil => rw [if_pos (show nI ([] : List Nat).length ≤ 0 by decide)]
  | cons s st =>
    have hlen : (s :: st).length = st.length + 1 := rfl
    rw [hlen] at hl ⊢
    have a := h1.1
    have b := hs s st rfl
    rw [if_neg (nI_nle (by omega) (by omega)), lt_s9, nI_pred, ck_t (inb_nI (show st.length < 400 by omega) (by decide)), clN (by omega), a, m_strength N (h4 s (List.mem_cons_self ..)), bo_s, if_pos ((nI_ltI (by omega) (by omega)).mpr b)]
def I79 (k : Nat) : Prop := k = 7 ∨ k = 9
def J126 (k : Nat) : Prop := k = 1 ∨ k = 2 ∨ k = 6
theorem m79_t {μ μ1 : Mz} (h : MF I79 J126 μ μ1) : MF IT JT μ μ1 := h.mono (fun _ z => by unfold I79 at z; unfold IT; omega) (fun _ z => by unfold J126 at z; unfold JT J12; omega)
/-- one is laid down, both -/
theorem lay_step (N : Nat) {R : Nat} {G : Nat → Int32} {cs : List Nat} {v s : Nat} {st : List Nat} {A : Nat → Nat} {κ : Cz} {μ : Mz} {least : Nat} (hs : Sh κ A) (hC : RC R G cs v A κ μ) (hS : SS (s :: st) μ) (hb : cs.length + st.length < 400) (hs9 : s ≠ 91) (h0 : 0 < least) (h3 : least ≤ stg s) : ∃ κ1 μ1, p_RuleReader_add N (A 15) (cOf s) κ = some κ1 ∧ (∀ f, b12_layDown_0 N (f + 1) (nI least) μ = b12_layDown_0 N f (nI least) μ1) ∧ RC R G (cs ++ [s]) v A κ1 μ1 ∧ SS st μ1 ∧ Chg A (fun r => r = 15 ∨ r = 16) κ κ1 ∧ MF I79 J126 μ μ1 := by
  obtain ⟨h1, h9, h7, h4, hd⟩ := hS
  have hlen : (s :: st).length = st.length + 1 := rfl
  rw [hlen] at h9
  have o4 := h4 s (List.mem_cons_self ..)
  have s16 : 2 ≤ s ∧ s < 16 := by unfold Op4 at o4; omega
  have hnv : nvL cs ≤ v := hC.2.2.2.2.2.2.2.2.2
  obtain ⟨κ1, μ1, e1, m1, C1, c1, M1⟩ := put_both N (s := s) hs (hC.sI (j := 9) (by decide) (by decide) (nI st.length)) (by omega) (nI s) 0 (by rw [show (16 : Int32) * 0 = nI 0 by decide, nI_add, Nat.add_zero]) (by rw [if_neg (by omega)]; omega)
  have a := h1.1
  have M9 : MF I79 J126 μ (si 9 (nI st.length) μ) := MF.si (by unfold I79; omega) _ _
  have M1' : MF I79 J126 (si 9 (nI st.length) μ) μ1 := M1.mono (fun _ z => z.elim) (fun _ z => by unfold J12 at z; unfold J126; omega)
  have g9 : gi 9 μ1 = nI st.length := by rw [M1.1 9 id, gi_si]
  have g7 : gi 7 μ1 = nI (dpL (s :: st)) := by rw [M1.1 7 id, gi_si_ne (by decide)]; exact h7
  have g6 : ga 6 μ1 = ga 6 μ := by rw [M1.2.1 6 (by unfold J12; omega), ga_si]
  have L : ∀ f, b12_layDown_0 N (f + 1) (nI least) μ = (if nI s = 11 then b12_layDown_0 N f (nI least) (si 7 (gi 7 μ1 - 1) μ1) else b12_layDown_0 N f (nI least) μ1) := by
    intro f
    rw [b12_layDown_0, h9, if_neg (nI_nle (by omega) (by omega)), lt_s9, nI_pred, ck_t (inb_nI (show st.length < 400 by omega) (by decide)), clN (by omega), a, m_strength N o4, bo_s, if_neg (show ¬ nI (stg s) < nI least from nI_nlt (by omega) (by have := stg_lt s; omega)), lt_s9, lt_s9, gi_si, ck_t (inb_nI (show st.length < 400 by omega) (by decide)), clN (by omega), ga_si, a, m1, bo_s, lt_s9, g9, ck_t (inb_nI (show st.length < 400 by omega) (by decide)), clN (by omega), g6, a]
    rfl
  by_cases q : s = 11
  · subst q
    have d1 : dpL (11 :: st) = dpL st + 1 := by rw [dpL, if_pos (Or.inl rfl), Nat.add_comm]
    have e7 : gi 7 μ1 - 1 = nI (dpL st) := by rw [g7, d1, nI_pred]
    have M7 : MF I79 J126 μ1 (si 7 (nI (dpL st)) μ1) := MF.si (by unfold I79; omega) _ _
    refine ⟨κ1, si 7 (nI (dpL st)) μ1, e1, fun f => ?_, C1.sI (by decide) (by decide) _, ⟨?_, ?_, gi_si _ _ _, fun x hx => h4 x (List.mem_cons_of_mem _ hx), by omega⟩, c1, (M9.trans M1').trans M7⟩
    · rw [L f, if_pos (show nI 11 = 11 from rfl), e7]
    · rw [ga_si, g6]; exact h1.2
    · rw [gi_si_ne (by decide)]; exact g9
  · have d1 : dpL (s :: st) = dpL st := by rw [dpL, if_neg (by omega), Nat.zero_add]
    refine ⟨κ1, μ1, e1, fun f => ?_, C1, ⟨?_, g9, by rw [g7, d1], fun x hx => h4 x (List.mem_cons_of_mem _ hx), by omega⟩, c1, M9.trans M1'⟩
    · rw [L f, if_neg (show ¬ nI s = 11 from fun z => q ((nI_eq (by omega) (by omega)).mp (show nI s = nI 11 from z)))]
    · rw [g6]; exact h1.2
/-- codes added by the class, one behind the other -/
def AD (N : Nat) (A : Nat → Nat) : List Nat → Cz → Cz → Prop
  | [], κ, κ1 => κ1 = κ
  | s :: l, κ, κ2 => ∃ κ1, p_RuleReader_add N (A 15) (cOf s) κ = some κ1 ∧ AD N A l κ1 κ2
theorem AD.det {N : Nat} {A : Nat → Nat} : ∀ {l : List Nat} {κ κ1 κ2 : Cz}, AD N A l κ κ1 → AD N A l κ κ2 → κ1 = κ2
  | [], _, _, _, h, g => h.trans g.symm
  | s :: l, κ, κ1, κ2, ⟨a, ha, h⟩, ⟨b, hb, g⟩ => by
    rw [ha] at hb
    cases hb
    exact AD.det h g
theorem AD.app {N : Nat} {A : Nat → Nat} : ∀ {l m : List Nat} {κ κ1 κ2 : Cz}, AD N A l κ κ1 → AD N A m κ1 κ2 → AD N A (l ++ m) κ κ2
  | [], _, _, _, _, h, g => by
    cases h
    exact g
  | s :: l, m, κ, κ1, κ2, ⟨a, ha, h⟩, g => ⟨a, ha, AD.app h g⟩
theorem AD.split {N : Nat} {A : Nat → Nat} : ∀ {l m : List Nat} {κ κ2 : Cz}, AD N A (l ++ m) κ κ2 → ∃ κ1, AD N A l κ κ1 ∧ AD N A m κ1 κ2
  | [], _, κ, _, h => ⟨κ, rfl, h⟩
  | s :: l, m, κ, κ2, ⟨a, ha, h⟩ => by
    obtain ⟨b, h1, h2⟩ := AD.split h
    exact ⟨b, ⟨a, ha, h1⟩, h2⟩
/-- all that are strong enough are laid down, both -/
theorem lay_all (N : Nat) {R : Nat} {G : Nat → Int32} {v : Nat} {A : Nat → Nat} {least : Nat} (h0 : 0 < least) (h3 : least < 4) {st : List Nat} (hst : ∀ s st', st = s :: st' → stg s < least) (hl : st.length ≤ 400) : ∀ (em cs : List Nat) (κ : Cz) (μ : Mz), Sh κ A → RC R G cs v A κ μ → SS (em ++ st) μ → cs.length + em.length + st.length ≤ 400 → (∀ s, s ∈ em → s ≠ 91 ∧ least ≤ stg s) → ∃ κ1 μ1, AD N A em κ κ1 ∧ (∀ f, em.length < f → b12_layDown_0 N f (nI least) μ = some μ1) ∧ RC R G (cs ++ em) v A κ1 μ1 ∧ SS st μ1 ∧ Chg A (fun r => r = 15 ∨ r = 16) κ κ1 ∧ MF I79 J126 μ μ1
  | [], cs, κ, μ, hs, hC, hS, _, _ => by
    refine ⟨κ, μ, rfl, fun f hf => ?_, by rw [List.append_nil]; exact hC, hS, Chg.refl _ _ _, MF.refl _ _ _⟩
    obtain ⟨f, rfl⟩ : ∃ z, f = z + 1 := ⟨f - 1, by omega⟩
    exact lay_stop N hS hl h0 h3 hst
  | s :: em, cs, κ, μ, hs, hC, hS, hb, he => by
    obtain ⟨s1, s2⟩ := he s (List.mem_cons_self ..)
    have hlen : (s :: em).length = em.length + 1 := rfl
    rw [hlen] at hb
    obtain ⟨κ1, μ1, e1, m1, C1, S1, c1, M1⟩ := lay_step N hs hC (s := s) (st := em ++ st) hS (by rw [List.length_append]; omega) s1 h0 s2
    obtain ⟨κ2, μ2, e2, m2, C2, S2, c2, M2⟩ := lay_all N h0 h3 hst hl em (cs ++ [s]) κ1 μ1 (hs.chg c1) C1 S1 (by rw [List.length_append]; simp only [List.length_cons, List.length_nil]; omega) (fun x hx => he x (List.mem_cons_of_mem _ hx))
    refine ⟨κ2, μ2, ⟨κ1, e1, e2⟩, fun f hf => ?_, ?_, S2, c1.trans c2, M1.trans M2⟩
    · rw [hlen] at hf
      obtain ⟨f, rfl⟩ : ∃ z, f = z + 1 := ⟨f - 1, by omega⟩
      rw [m1 f]
      exact m2 f (by omega)
    · rw [List.append_assoc] at C2
      exact C2
theorem PJ.mf {B : Nat → Nat} {t n k : Nat} {A : Nat → Nat} {κ : Cz} {μ μ1 : Mz} {I J : Nat → Prop} (h : PJ B t n k A κ μ) (g : MF I J μ μ1) (n0 : ¬ I 0) (n2 : ¬ I 2) (n3 : ¬ I 3) (m0 : ¬ J 0) : PJ B t n k A κ μ1 := by
  obtain ⟨a1, a2, a3, a4, p, a5, a6, a7⟩ := h
  exact ⟨a1, a2, ⟨a3.1, by rw [g.1 0 n0]; exact a3.2.1, by rw [g.2.1 0 m0]; exact a3.2.2⟩, by rw [g.1 3 n3]; exact a4, p, a5, by rw [g.1 2 n2]; exact a6, a7⟩
/-- one is pushed that isn't deep -/
theorem m_push12 {st : List Nat} {μ : Mz} {s : Nat} (h : SS st μ) (hs : s = 12 ∨ s = 13) : SS (s :: st) (si 9 (nI (st.length + 1)) (sa 6 (upd (ga 6 μ) st.length (nI s)) μ)) ∧ MF I79 J126 μ (si 9 (nI (st.length + 1)) (sa 6 (upd (ga 6 μ) st.length (nI s)) μ)) := by
  obtain ⟨h1, h9, h7, h4, h10⟩ := h
  refine ⟨⟨?_, ?_, ?_, ?_, ?_⟩, (MF.sa (by unfold J126; omega) _ _).trans (MF.si (by unfold I79; omega) _ _)⟩
  · rw [ga_si, ga_sa]
    exact ⟨by rw [upd_at, if_pos rfl], SOa_upd h1 (Nat.le_refl _)⟩
  · rw [gi_si]; rfl
  · rw [gi_si_ne (by decide), gi_sa, h7, dpL, if_neg (by omega), Nat.zero_add]
  · intro x hx
    rcases List.mem_cons.mp hx with rfl | hx
    · unfold Op4; omega
    · exact h4 x hx
  · rw [dpL, if_neg (by omega)]; omega
theorem SOa_in {f : Nat → Int32} : ∀ {st : List Nat}, SOa f st → (∀ s, s ∈ st → ∃ i, i < st.length ∧ f i = nI s) ∧ ∀ i, i < st.length → ∃ s, s ∈ st ∧ f i = nI s
  | [], _ => ⟨fun s hs => absurd hs (by simp), fun i hi => absurd hi (by simp)⟩
  | s :: st, h => by
    obtain ⟨a, b⟩ := SOa_in h.2
    have hlen : (s :: st).length = st.length + 1 := rfl
    refine ⟨fun x hx => ?_, fun i hi => ?_⟩
    · rcases List.mem_cons.mp hx with rfl | hx
      · exact ⟨st.length, by omega, h.1⟩
      · obtain ⟨i, hi, e⟩ := a x hx
        exact ⟨i, by omega, e⟩
    · by_cases q : i = st.length
      · subst q
        exact ⟨s, List.mem_cons_self .., h.1⟩
      · obtain ⟨x, hx, e⟩ := b i (by omega)
        exact ⟨x, List.mem_cons_of_mem _ hx, e⟩
theorem m_isInside (N : Nat) (hN : 20000 ≤ N) {st : List Nat} {μ : Mz} (h : SS st μ) (hl : st.length ≤ 400) : p12_isInside N μ = some (if 91 ∈ st then 1 else 0, μ) := by
  obtain ⟨h1, h9, -, h4, -⟩ := h
  obtain ⟨ha, hb⟩ := SOa_in h1
  have L := upL st.length (fun f i => ((∃ j, i ≤ j ∧ j < st.length ∧ ga 6 μ j = nI 91) → b12_isInside_2 N f (nI i) μ = some (1, μ)) ∧ ((¬ ∃ j, i ≤ j ∧ j < st.length ∧ ga 6 μ j = nI 91) → b12_isInside_2 N f (nI i) μ = some (0, μ))) (by
    intro f
    refine ⟨fun ⟨j, j1, j2, _⟩ => absurd j2 (by omega), fun _ => ?_⟩
    rw [b12_isInside_2, h9, if_pos (nI_le (Nat.le_refl _) (by omega))]) (by
    intro f i hi ih
    rw [b12_isInside_2, h9, if_neg (nI_ge hi (by omega)), ck_t (inb_nI (show i < 400 by omega) (by decide)), clN (by omega)]
    by_cases q : ga 6 μ i = nI 91
    · rw [if_pos (show ga 6 μ i = 91 from q)]
      exact ⟨fun _ => rfl, fun z => absurd ⟨i, Nat.le_refl _, hi, q⟩ z⟩
    · rw [if_neg (show ¬ ga 6 μ i = 91 from q), lt_s9, nI_1]
      refine ⟨fun ⟨j, j1, j2, j3⟩ => ih.1 ⟨j, ?_, j2, j3⟩, fun z => ih.2 (fun ⟨j, j1, j2, j3⟩ => z ⟨j, by omega, j2, j3⟩)⟩
      by_cases w : j = i
      · subst w; exact absurd j3 q
      · omega) N 0 (by omega) (by omega)
  rw [nI_0] at L
  unfold p12_isInside
  by_cases q : 91 ∈ st
  · obtain ⟨i, hi, e⟩ := ha 91 q
    rw [L.1 ⟨i, by omega, hi, e⟩, if_pos q]
  · rw [if_neg q]
    refine L.2 (fun ⟨j, _, j2, j3⟩ => ?_)
    obtain ⟨s, s1, s2⟩ := hb j j2
    have o4 := h4 s s1
    have : s = 91 := (nI_eq (by unfold Op4 at o4; omega) (by omega)).mp (s2.symm.trans j3)
    exact q (this ▸ s1)
/-- one more is open -/
theorem m_opens (N : Nat) {st : List Nat} {μ : Mz} {s : Nat} (h : SS st μ) (hl : st.length < 400) (hs : s = 11 ∨ s = 91) (hd : dpL st < 10) : ∃ μ1, p12_opens N (nI s) μ = some (1, μ1) ∧ SS (s :: st) μ1 ∧ MF (fun k => k = 7 ∨ k = 9) (fun k => k = 6) μ μ1 := by
  obtain ⟨h1, h9, h7, h4, h10⟩ := h
  refine ⟨si 9 (nI (st.length + 1)) (sa 6 (upd (ga 6 μ) st.length (nI s)) (si 7 (nI (dpL st + 1)) μ)), ?_, ⟨?_, ?_, ?_, ?_, ?_⟩, ?_⟩
  · unfold p12_opens
    rw [h7, if_neg (show ¬ nI (dpL st) = 10 from fun z => by have := (nI_eq (by omega) (by omega)).mp (show nI (dpL st) = nI 10 from z); omega), lt_s9, nI_1, gi_si_ne (by decide), h9, ck_t (inb_nI hl (by decide)), lt_s9, clN (by omega), gi_sa, gi_si_ne (by decide), h9, nI_1, lt_s9, ga_si]
  · rw [ga_si, ga_sa]
    exact ⟨by rw [upd_at, if_pos rfl], SOa_upd h1 (Nat.le_refl _)⟩
  · rw [gi_si]; rfl
  · rw [gi_si_ne (by decide), gi_sa, gi_si, dpL, if_pos (by omega), Nat.add_comm]
  · intro x hx
    rcases List.mem_cons.mp hx with rfl | hx
    · unfold Op4; omega
    · exact h4 x hx
  · rw [dpL, if_pos (by omega)]; omega
  · exact ((MF.si (I := fun k => k = 7 ∨ k = 9) (J := fun k => k = 6) (k := 7) (Or.inl rfl) _ _).trans (MF.sa (I := fun k => k = 7 ∨ k = 9) (J := fun k => k = 6) (k := 6) rfl _ _)).trans (MF.si (I := fun k => k = 7 ∨ k = 9) (J := fun k => k = 6) (k := 9) (Or.inr rfl) _ _)
theorem m_opens10 (N : Nat) {st : List Nat} {μ : Mz} {p : Nat} (s : Int32) (h : SS st μ) (hd : ¬ dpL st < 10) (h2 : gi 2 μ = nI p) : p12_opens N s μ = some (0, flt 2 p μ) := by
  obtain ⟨h1, h9, h7, h4, h10⟩ := h
  unfold p12_opens
  rw [h7, if_pos (show nI (dpL st) = 10 by rw [show dpL st = 10 by omega]; rfl), h2, m_fails N (w := 2) 2 rfl, bd_s, ck_t b01_0]
