/-! tokens: one at a time -/
def SG (i : Nat) : Nat := ([59, 60, 61, 62, 43, 45, 42, 47, 37, 91, 93] : List Nat).getD i 0
def sgB (v : Nat) : Bool := (List.range 11).any (fun j => decide (SG j = v))
theorem sgB_iff {v : Nat} : sgB v = true ↔ ∃ j, j < 11 ∧ SG j = v := by
  unfold sgB
  rw [List.any_eq_true]
  constructor
  · rintro ⟨j, h1, h2⟩
    exact ⟨j, List.mem_range.mp h1, of_decide_eq_true h2⟩
  · rintro ⟨j, h1, h2⟩
    exact ⟨j, List.mem_range.mpr h1, decide_eq_true h2⟩
theorem sg_at : ∀ i, i < 11 → ((bytS.getD 1 []).getD i 0 = nI (SG i) ∧ SG i < 128) := by decide +kernel
theorem low16 : ∀ v, v < 256 → (((nI v).toUInt32 % 65536).toInt32 = nI v ∧ ¬ nI v < 0 ∧ ¬ 255 < nI v) := by decide +kernel
theorem c_signIx (N : Nat) (hN : 20000 ≤ N) {v : Nat} (hv : v < 256) (κ : Cz) : ∃ r, p_String_indexOf1 N 1 (((nI v).toUInt32 % 65536).toInt32) κ = some (r, κ) ∧ (0 ≤ r ↔ sgB v = true) := by
  have L : ∀ (d i n : Nat), i + d = 11 → d < n → (∀ j, j < i → ¬ SG j = v) → ∃ r, b_StringLatin1_indexOfChar_7 N n 1 (nI 11) (sx v) (nI i) κ = some (r, κ) ∧ (0 ≤ r ↔ sgB v = true) := by
    intro d
    induction d with
    | zero =>
      intro i n hi hn hj
      obtain ⟨n, rfl⟩ : ∃ q, n = q + 1 := ⟨n - 1, by omega⟩
      rw [b_StringLatin1_indexOfChar_7, if_pos (nI_le (by omega) (by omega))]
      refine ⟨-1, rfl, ⟨fun z => absurd z (by decide), fun z => ?_⟩⟩
      obtain ⟨j, h1, h2⟩ := sgB_iff.mp z
      exact absurd h2 (hj j (by omega))
    | succ d ih =>
      intro i n hi hn hj
      obtain ⟨n, rfl⟩ : ∃ q, n = q + 1 := ⟨n - 1, by omega⟩
      obtain ⟨s1, s2⟩ := sg_at i (by omega)
      rw [b_StringLatin1_indexOfChar_7, if_neg (nI_ge (show i < 11 by omega) (by omega)), show decide (1 < 2) = true from rfl, ck_1, ck_t (show inb (nI i) (lenS.getD 1 0) = true from inb_nI (show i < 11 by omega) (by decide)), clN (by omega), s1]
      by_cases z : SG i = v
      · rw [if_pos (show nI (SG i) = sx v by rw [z]; exact ((sx_eq hv (by omega)).mpr rfl).symm)]
        refine ⟨nI i, rfl, ⟨fun _ => ?_, fun _ => Int32.not_lt.mp (nI_pos (by omega))⟩⟩
        exact sgB_iff.mpr ⟨i, by omega, z⟩
      · rw [if_neg (show ¬ nI (SG i) = sx v from fun y => z ((sx_eq hv s2).mp y.symm).symm), lt_s9, nI_1]
        exact ih (i + 1) n (by omega) (by omega) (fun j h1 => by
          by_cases q : j = i
          · subst q; exact z
          · exact hj j (by omega))
  obtain ⟨r, e1, e2⟩ := L 11 0 N (by omega) (by omega) (fun j hj => absurd hj (by omega))
  obtain ⟨w1, w2, w3⟩ := low16 v hv
  refine ⟨r, ?_, e2⟩
  rw [w1]
  have e1' : p_StringLatin1_indexOfChar N 1 (nI v) 0 (nI 11) κ = some (r, κ) := by
    unfold p_StringLatin1_indexOfChar
    rw [lt_s9]
    exact e1
  unfold p_String_indexOf1 p_String_indexOf2 p_String_isLatin1 p_StringLatin1_indexOf p_StringLatin1_canEncode
  rw [show decide (1 < 2) = true from rfl, ck_1, ck_1, if_neg ne10, ck_1, if_pos rfl, bd_s, if_neg ne10, show p_String_length N 1 κ = some (nI 11, κ) from rfl, bd_s, if_neg w2, if_neg w3, bd_s, if_neg ne10, lt_s9, if_neg (show ¬ (0 : Int32) < 0 by decide), ck_1, lt_s9, show (if nI (lenS.getD 1 0) < nI 11 then nI (lenS.getD 1 0) else nI 11) = nI 11 from rfl, if_pos (show (0 : Int32) < nI 11 by decide), e1', bd_s, bd_s, bd_s]
/-- the tokens so far: z of them -/
def TkA (κ : Cz) (A : Nat → Nat) (K V : Nat → Int32) (P : Nat → Nat) (z : Nat) : Prop := fi κ (A 2) 3 = nI z ∧ ∀ i, i < z → ai κ (A 3) i = K i ∧ ai κ (A 4) i = V i ∧ ai κ (A 5) i = nI (P i)
def Lt5 (r : Nat) : Prop := 2 ≤ r ∧ r ≤ 5
theorem c_add (N : Nat) {A : Nat → Nat} {κ : Cz} {K V : Nat → Int32} {P : Nat → Nat} {z : Nat} (hs : Sh κ A) (hz : z < 401) (hk : TkA κ A K V P z) {a b : Int32} {p : Nat} (ea : K z = a) (eb : V z = b) (ep : P z = p) : ∃ κ1, p_Tokens_add N (A 2) a b (nI p) κ = some κ1 ∧ TkA κ1 A K V P (z + 1) ∧ Chg A Lt5 κ κ1 := by
  have hA := hs.inj
  obtain ⟨h3, hi⟩ := hk
  have n1 : ¬ A 4 = A 3 := hA.ne (by decide)
  have n2 : ¬ A 5 = A 3 := hA.ne (by decide)
  have n3 : ¬ A 5 = A 4 := hA.ne (by decide)
  unfold p_Tokens_add
  simp -implicitDefEqProofs only [hs.tk, ck_1, bo_s, h3, lt_s9, isK_ai, fr_ai, ln_ai, fi_ai, ai_ai, if_neg n1, if_neg n2, if_neg n3, inbT hz (by decide), clN (show z < 2147483648 by omega), nI_1]
  rw [if_neg (nI_ge hz (by omega))]
  have g : Chg A Lt5 κ (sfi (A 2) 3 (nI (z + 1)) (sai (A 5) (upd (ai κ (A 5)) z (nI p)) (sai (A 4) (upd (ai κ (A 4)) z b) (sai (A 3) (upd (ai κ (A 3)) z a) κ)))) := (((Chg.sai (L := Lt5) hA κ (r := 3) (by unfold Lt5; omega) _).trans (Chg.sai (L := Lt5) hA _ (r := 4) (by unfold Lt5; omega) _)).trans (Chg.sai (L := Lt5) hA _ (r := 5) (by unfold Lt5; omega) _)).trans (Chg.sfi (L := Lt5) hA _ (r := 2) (by unfold Lt5; omega) _ _)
  refine ⟨_, rfl, ⟨by rw [fi_fi, if_pos ⟨rfl, rfl⟩], fun i hi2 => ?_⟩, g⟩
  rw [ai_fi, ai_ai, if_neg (fun y => n2 y.symm), ai_ai, if_neg (fun y => n1 y.symm), ai_ai, if_pos rfl, ai_ai, if_neg (fun y => n3 y.symm), ai_ai, if_pos rfl, ai_ai, if_pos rfl, upd_at, upd_at, upd_at]
  by_cases q : i = z
  · subst q
    rw [if_pos rfl, if_pos rfl, if_pos rfl]
    exact ⟨ea.symm, eb.symm, by rw [ep]⟩
  · rw [if_neg q, if_neg q, if_neg q]
    exact hi i (by omega)
theorem TxC.chg {B : Nat → Nat} {t : Nat} {A : Nat → Nat} {κ κ1 : Cz} {L : Nat → Prop} (h : TxC B t A κ) (g : Chg A L κ κ1) (n : ¬ L 1) : TxC B t A κ1 := by
  obtain ⟨h1, h2, h3, h4⟩ := h
  exact ⟨h1, by rw [g.isK]; exact h2, by rw [g.ln]; exact h3, fun i hi => by rw [g.ai n]; exact h4 i hi⟩
theorem c_dig : ∀ v, v < 256 → (¬ nI v < 48 ∧ ¬ 57 < nI v ↔ dgB v = true) := by decide +kernel
theorem c_sml : ∀ v, v < 256 → (¬ nI v < 97 ∧ ¬ 122 < nI v ↔ smB v = true) := by decide +kernel
theorem c_isDigit (N : Nat) {v : Nat} (hv : v < 256) (κ : Cz) : p_Tokens_isDigit N (nI v) κ = some (if dgB v = true then 1 else 0, κ) := by
  have h := c_dig v hv
  unfold p_Tokens_isDigit
  by_cases a : nI v < 48
  · rw [if_pos a, if_neg (fun z => (h.mpr z).1 a)]
  · rw [if_neg a]
    by_cases b : 57 < nI v
    · rw [if_pos b, if_neg (fun z => (h.mpr z).2 b)]
    · rw [if_neg b, if_pos (h.mp ⟨a, b⟩)]
theorem c_isSmall (N : Nat) {v : Nat} (hv : v < 256) (κ : Cz) : p_Tokens_isSmall N (nI v) κ = some (if smB v = true then 1 else 0, κ) := by
  have h := c_sml v hv
  unfold p_Tokens_isSmall
  by_cases a : nI v < 97
  · rw [if_pos a, if_neg (fun z => (h.mpr z).1 a)]
  · rw [if_neg a]
    by_cases b : 122 < nI v
    · rw [if_pos b, if_neg (fun z => (h.mpr z).2 b)]
    · rw [if_neg b, if_pos (h.mp ⟨a, b⟩)]
