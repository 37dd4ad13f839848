/-! a rule is read: how the reference goes on behind a fact -/
def AFT (N f : Nat) (μ : Mz) : Option (Int32 × Mz) := bd (p12_isWord N 6385252 μ) (fun r10 μ10 => if r10 = 0 then bd (p12_isWord N 28530 μ10) (fun r18 μ18 => if r18 = 0 then b12_tested_54 N (b12_tested_12 N f) 0 μ18 else b12_tested_49 N (b12_tested_12 N f) μ18) else b12_tested_49 N (b12_tested_12 N f) μ10)
def CL5 (N g f : Nat) (μ : Mz) : Option (Int32 × Mz) := bo (b12_closes_5 N g μ) (fun μ9 => AFT N f μ9)
def CLG (N h g f : Nat) (μ : Mz) : Option (Int32 × Mz) := bo (b12_layDown_0 N h 3 μ) (fun μ1 => CL5 N g f μ1)
def FCT (N m f : Nat) (μ : Mz) : Option (Int32 × Mz) := bd (b12_fact_2 N m 1 μ) (fun r8 μ8 => if r8 = 0 then some (0, μ8) else CLG N N N f μ8)
theorem bo_bo {α β γ : Type} (x : Option α) (f : α → Option β) (g : β → Option γ) : bo (bo x f) g = bo x (fun a => bo (f a) g) := by
  cases x with
  | none => rfl
  | some q => rfl
theorem tested_fct (N f : Nat) (μ : Mz) : b12_tested_12 N (f + 1) 1 μ = FCT N N f μ := by
  rw [b12_tested_12, if_neg ne10]
  unfold p12_fact FCT
  congr 1
  funext r8 μ8
  by_cases q : r8 = 0
  · rw [if_pos q, if_pos q]
  · rw [if_neg q, if_neg q]
    unfold p12_closes p12_layDown CLG CL5 AFT
    rw [bo_bo]
theorem TJ.len {B : Nat → Nat} {t n k R : Nat} {G : Nat → Int32} {cs : List Nat} {v : Nat} {st : List Nat} {A : Nat → Nat} {κ : Cz} {μ : Mz} (h : TJ B t n k R G cs v st A κ μ) : cs.length + st.length ≤ k ∧ k ≤ n ∧ n ≤ 400 := ⟨h.1.2.2, h.1.1.2.1.2.2.2.1, h.1.1.2.1.2.2.1⟩
theorem cl5_stop (N : Nat) (hN : 20000 ≤ N) {B : Nat → Nat} {t n k R : Nat} {G : Nat → Int32} {cs : List Nat} {v : Nat} {st : List Nat} {A : Nat → Nat} {κ : Cz} {μ : Mz} (hT : TJ B t n k R G cs v st A κ μ) (g f : Nat) (h : ¬ (plc B t k < t ∧ B (plc B t k) = 93) ∨ ¬ 91 ∈ st) : CL5 N (g + 1) f μ = AFT N f (si 2 (nI (plc B t k)) μ) := by
  have hl := hT.len
  have hle := plc_le B t k
  unfold CL5
  rw [b12_closes_5, m_seeJ N hN hT.1.1, bd_s]
  by_cases e : plc B t k = t
  · rw [if_pos e, if_neg (by decide), bo_s]
  · have hlt : plc B t k < t := by omega
    have b9 := hT.1.byt _ hlt
    rw [if_neg e]
    by_cases b : B (plc B t k) = 93
    · have n91 : ¬ 91 ∈ st := by
        rcases h with z | z
        · exact absurd ⟨hlt, b⟩ z
        · exact z
      rw [if_pos (show nI (B (plc B t k)) = 93 by rw [b]; rfl), m_isInside N hN hT.see.2 (by omega), bd_s, ite10, if_neg n91, bo_s]
    · rw [if_neg (show ¬ nI (B (plc B t k)) = 93 from fun z => b ((nI_eq (by omega) (by omega)).mp (show nI (B (plc B t k)) = nI 93 from z))), bo_s]
theorem cl5_close (N : Nat) (hN : 20000 ≤ N) {B : Nat → Nat} {t n k R : Nat} {G : Nat → Int32} {cs : List Nat} {v : Nat} {st : List Nat} {A : Nat → Nat} {κ : Cz} {μ : Mz} (hT : TJ B t n k R G cs v st A κ μ) (g f : Nat) (hlt : plc B t k < t) (b : B (plc B t k) = 93) (h91 : 91 ∈ st) : CL5 N (g + 1) f μ = bo (b12_layDown_0 N N 1 (si 2 (nI (plc B t k)) μ)) (fun μ4 => CLG N N g f (si 2 ((gi 2 μ4) + 1) (si 7 ((gi 7 μ4) - 1) (si 9 ((gi 9 μ4) - 1) μ4)))) := by
  have hl := hT.len
  unfold CL5 CLG
  rw [b12_closes_5, m_seeJ N hN hT.1.1, bd_s, if_neg (show ¬ plc B t k = t by omega), if_pos (show nI (B (plc B t k)) = 93 by rw [b]; rfl), m_isInside N hN hT.see.2 (by omega), bd_s, ite10, if_pos h91]
  unfold p12_layDown
  rw [bo_bo]
  congr 1
  funext μ4
  rw [lt_s9, lt_s9, lt_s9, gi_si_ne (show 7 ≠ 9 by decide), gi_si_ne (show 2 ≠ 7 by decide), gi_si_ne (show 2 ≠ 9 by decide), bo_bo]
  rfl
theorem aft_w (N : Nat) (hN : 20000 ≤ N) {B : Nat → Nat} {t n k : Nat} {A : Nat → Nat} {κ : Cz} {μ : Mz} (hJ : PJ B t n k A κ μ) (h2 : gi 2 μ = nI (plc B t k)) (f : Nat) : AFT N f μ = if isW B t (plc B t k) (CD 18) = true then b12_tested_76 N (b12_tested_12 N f) 1 12 μ else if isW B t (plc B t k) (CD 17) = true then b12_tested_76 N (b12_tested_12 N f) 1 13 μ else b12_tested_12 N f 0 μ := by
  have w18 := m_wordS N hN hJ h2 6385252 (code := CD 18) (by decide) (by decide)
  have w17 := m_wordS N hN hJ h2 28530 (code := CD 17) (by decide) (by decide)
  have e54 : b12_tested_49 N (b12_tested_12 N f) μ = if isW B t (plc B t k) (CD 18) = true then b12_tested_76 N (b12_tested_12 N f) 1 12 μ else b12_tested_76 N (b12_tested_12 N f) 1 13 μ := by
    unfold b12_tested_49 b12_tested_54
    rw [if_neg ne10, w18, bd_s, ite10]
  have e540 : b12_tested_54 N (b12_tested_12 N f) 0 μ = b12_tested_12 N f 0 μ := by
    unfold b12_tested_54
    rw [if_pos rfl]
  unfold AFT
  rw [w18, bd_s, ite10, w17, bd_s, ite10, e54, e540]
  by_cases a : isW B t (plc B t k) (CD 18) = true
  · rw [if_pos a, if_pos a, if_pos a]
  · rw [if_neg a, if_neg a, if_neg a]
theorem add_chg (N : Nat) {A : Nat → Nat} {κ κ1 : Cz} {c : Int32} (hs : Sh κ A) (h : p_RuleReader_add N (A 15) c κ = some κ1) : Chg A (fun r => r = 15 ∨ r = 16) κ κ1 := by
  have hA := hs.inj
  unfold p_RuleReader_add at h
  simp -implicitDefEqProofs only [hs.rR, ck_1, bo_s, lt_s9, isK_ai, fi_ai] at h
  by_cases q : nI 400 ≤ fi κ (A 15) 4
  · rw [if_pos q] at h
    cases h
    exact Chg.refl _ _ _
  · rw [if_neg q] at h
    cases hq : inb (fi κ (A 15) 4) 400 with
    | false =>
      rw [hq] at h
      exact absurd h (fun z => (nomatch z))
    | true =>
      rw [hq, ck_1] at h
      cases h
      exact (Chg.sai (L := fun r => r = 15 ∨ r = 16) hA κ (r := 16) (Or.inr rfl) _).trans (Chg.sfi (L := fun r => r = 15 ∨ r = 16) hA _ (r := 15) (Or.inl rfl) _ _)
theorem AD.chg {N : Nat} {A : Nat → Nat} : ∀ {l : List Nat} {κ κ1 : Cz}, Sh κ A → AD N A l κ κ1 → Chg A (fun r => r = 15 ∨ r = 16) κ κ1
  | [], _, _, _, h => by
    cases h
    exact Chg.refl _ _ _
  | s :: l, κ, κ1, hs, ⟨a, ha, h⟩ => (add_chg N hs ha).trans (AD.chg (hs.chg (add_chg N hs ha)) h)
/-- a word that joins is read, both -/
theorem join_step (N : Nat) (hN : 20000 ≤ N) {B : Nat → Nat} {t n k R : Nat} {G : Nat → Int32} {cs : List Nat} {v : Nat} {em st : List Nat} {A : Nat → Nat} {κ : Cz} {μ : Mz} {w s least : Nat} (hT : TJ B t n k R G cs v (em ++ st) A κ μ) (hw : isW B t (plc B t k) (CD w) = true) (hx : w = 18 ∧ s = 12 ∧ least = 2 ∨ w = 17 ∧ s = 13 ∧ least = 1) (hem : ∀ x, x ∈ em → x ≠ 91 ∧ least ≤ stg x) (hst : ∀ s st', st = s :: st' → stg s < least) (h3 : ∀ x st', em ++ st = x :: st' → stg x < 3) {h : Nat} (hh : 0 < h) (g f : Nat) : ∃ κ2 κ3 μ3, AD N A em κ κ2 ∧ p_Tokens_goOn N (A 2) κ2 = some κ3 ∧ CLG N h (g + 1) (f + 1) μ = FCT N N f μ3 ∧ TJ B t n (k + 1) R G (cs ++ em) v (s :: st) A κ3 μ3 ∧ Chg A LSm κ κ3 ∧ MF IT JT μ μ3 := by
  obtain ⟨h, rfl⟩ : ∃ z, h = z + 1 := ⟨h - 1, by omega⟩
  have hl := hT.len
  rw [List.length_append] at hl
  have hs := hT.1.1.1
  have hTk := hT.1.1.2.1
  have Ts := hT.see
  have h2s : gi 2 (si 2 (nI (plc B t k)) μ) = nI (plc B t k) := gi_si _ _ _
  obtain ⟨κg, eg, pw, Jw, cg⟩ := word_S N hN Ts.1.1 h2s hw
  obtain ⟨_, Tg, Tx, g3, e, he, ge, se⟩ := Jw
  have hk1 : k + 1 ≤ n := Tg.2.2.2.1
  have kl : ∃ k', k + 1 = k' := ⟨_, rfl⟩
  -- laid down behind the word
  have Mp : MF IT JT μ (si 2 (nI (runTo smB B t (plc B t k))) (si 2 (nI (plc B t k)) μ)) := (MF.si (by unfold IT IS; omega) _ _).trans (MF.si (by unfold IT IS; omega) _ _)
  have Cp := Ts.1.2.1.sI (j := 2) (by decide) (by decide) (nI (runTo smB B t (plc B t k)))
  have Sp : SS (em ++ st) (si 2 (nI (runTo smB B t (plc B t k))) (si 2 (nI (plc B t k)) μ)) := Ts.2.mf (I := fun k => k = 2) (J := fun _ => False) (MF.si (I := fun k => k = 2) (k := 2) rfl _ _) (by decide) (by decide) id
  obtain ⟨κ2, μ2, a2, l2, C2, S2, c2, M2⟩ := lay_all N (least := least) (by omega) (by omega) hst (by omega) em cs κ _ hs Cp Sp (by omega) hem
  have hs2 := hs.chg c2
  have T2 := hTk.chg c2 (fun r z1 z2 z3 => by omega)
  obtain ⟨κ3, e3, T3, c3⟩ := c_goOn N hs2 T2
  rw [Nat.min_eq_left (by omega)] at T3
  obtain ⟨S3, M3⟩ := m_push12 S2 (s := s) (by omega)
  have g9 : gi 9 μ2 = nI st.length := S2.2.1
  refine ⟨κ2, κ3, _, a2, e3, ?_, ⟨⟨⟨hs2.chg c3, T3, ?_, ?_, e, he, ?_, se⟩, ?_, ?_⟩, S3⟩, (l1516_m c2).trans (lt5_m c3), (Mp.trans (m79_t M2)).trans (m79_t M3)⟩
  · have hw7 : AFT N (f + 1) (si 2 (nI (plc B t k)) μ) = b12_tested_76 N (b12_tested_12 N (f + 1)) 1 (nI s) (si 2 (nI (plc B t k)) μ) := by
      rw [aft_w N hN Ts.1.1 h2s]
      rcases hx with ⟨rfl, rfl, rfl⟩ | ⟨rfl, rfl, rfl⟩
      · rw [if_pos hw]
        rfl
      · rw [if_neg (isW_ex (by decide) (by decide) (by decide) hw), if_pos hw]
        rfl
    have h93 : ¬ (plc B t k < t ∧ B (plc B t k) = 93) := by
      rintro ⟨z1, z2⟩
      have h0 := (isW_iff.mp hw).1
      have h1 : plc B t k < runTo smB B t (plc B t k) := by unfold wdL at h0; omega
      have := sm_b (runTo_in smB B (t := t) (Nat.le_refl (plc B t k)) h1)
      omega
    unfold CLG
    rw [show b12_layDown_0 N (h + 1) 3 μ = some μ from lay_stop N hT.2 (by rw [List.length_append]; omega) (least := 3) (by omega) (by omega) h3, bo_s, cl5_stop N hN hT g (f + 1) (Or.inl h93), hw7]
    unfold b12_tested_76
    have hls : p12_strength N (nI s) = some (nI least) := by
      rcases hx with ⟨rfl, rfl, rfl⟩ | ⟨rfl, rfl, rfl⟩ <;> rfl
    unfold p12_layDown
    rw [pw, bo_s, hls, bo_s, l2 N (by omega), bo_s, g9, ck_t (inb_nI (show st.length < 400 by omega) (by decide)), lt_s9, lt_s9, gi_sa, g9, nI_1, clN (by omega), tested_fct]
  · refine ⟨Tx.1, ?_, ?_⟩
    · rw [M3.1 0 (by unfold I79; omega), M2.1 0 (by unfold I79; omega)]; exact Tx.2.1
    · rw [M3.2.1 0 (by unfold J126; omega), M2.2.1 0 (by unfold J126; omega)]; exact Tx.2.2
  · rw [M3.1 3 (by unfold I79; omega), M2.1 3 (by unfold I79; omega)]; exact g3
  · rw [M3.1 2 (by unfold I79; omega), M2.1 2 (by unfold I79; omega)]; exact ge
  · exact (C2.chg c3 (by unfold Lt5; omega) (by unfold Lt5; omega)).mf (I := I79) (J := fun k => k = 6) ((MF.sa (I := I79) (J := fun k => k = 6) (k := 6) rfl _ _).trans (MF.si (I := I79) (J := fun k => k = 6) (k := 9) (by unfold I79; omega) _ _)) (by unfold I79; omega) (by unfold I79; omega) (by decide) (by decide)
  · rw [List.length_append]
    have : (s :: st).length = st.length + 1 := rfl
    omega
