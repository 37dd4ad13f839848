/-! the text: bytes B, t of them; where things end -/
def runN (P : Nat → Bool) (B : Nat → Nat) : Nat → Nat → Nat
  | 0, p => p
  | d + 1, p => if P (B p) = true then runN P B d (p + 1) else p
/-- the first place from p on whose byte isn't one of P, or t -/
def runTo (P : Nat → Bool) (B : Nat → Nat) (t p : Nat) : Nat := runN P B (t - p) p
theorem runTo_t (P : Nat → Bool) (B : Nat → Nat) {t p : Nat} (h : t ≤ p) : runTo P B t p = p := by
  unfold runTo
  rw [show t - p = 0 by omega]
  rfl
theorem runTo_y (P : Nat → Bool) (B : Nat → Nat) {t p : Nat} (h : p < t) (hp : P (B p) = true) : runTo P B t p = runTo P B t (p + 1) := by
  unfold runTo
  rw [show t - p = (t - (p + 1)) + 1 by omega, runN, if_pos hp]
theorem runTo_n (P : Nat → Bool) (B : Nat → Nat) {t p : Nat} (hp : ¬ P (B p) = true) : runTo P B t p = p := by
  unfold runTo
  cases hd : t - p with
  | zero => rfl
  | succ d => rw [runN, if_neg hp]
theorem runN_ge (P : Nat → Bool) (B : Nat → Nat) : ∀ d p, p ≤ runN P B d p ∧ runN P B d p ≤ p + d
  | 0, p => ⟨Nat.le_refl _, Nat.le_refl _⟩
  | d + 1, p => by
    rw [runN]
    split
    · have := runN_ge P B d (p + 1)
      omega
    · omega
theorem runTo_ge (P : Nat → Bool) (B : Nat → Nat) (t p : Nat) : p ≤ runTo P B t p := (runN_ge P B (t - p) p).1
theorem runTo_le (P : Nat → Bool) (B : Nat → Nat) {t p : Nat} (h : p ≤ t) : runTo P B t p ≤ t := by
  have := (runN_ge P B (t - p) p).2
  unfold runTo
  omega
theorem runN_in (P : Nat → Bool) (B : Nat → Nat) : ∀ d p i, p ≤ i → i < runN P B d p → P (B i) = true
  | 0, p, i, h1, h2 => absurd h2 (by rw [runN]; omega)
  | d + 1, p, i, h1, h2 => by
    rw [runN] at h2
    split at h2
    · rename_i z
      by_cases e : i = p
      · subst e; exact z
      · exact runN_in P B d (p + 1) i (by omega) h2
    · omega
theorem runTo_in (P : Nat → Bool) (B : Nat → Nat) {t p i : Nat} (h1 : p ≤ i) (h2 : i < runTo P B t p) : P (B i) = true := runN_in P B _ p i h1 h2
theorem runN_end (P : Nat → Bool) (B : Nat → Nat) : ∀ d p, runN P B d p < p + d → ¬ P (B (runN P B d p)) = true
  | 0, p, h => absurd h (by rw [runN]; omega)
  | d + 1, p, h => by
    rw [runN] at h ⊢
    split
    · rename_i z
      rw [if_pos z] at h
      exact runN_end P B d (p + 1) (by omega)
    · rename_i z
      exact z
theorem runTo_end (P : Nat → Bool) (B : Nat → Nat) {t p : Nat} (h : runTo P B t p < t) : ¬ P (B (runTo P B t p)) = true := by
  by_cases q : p ≤ t
  · exact runN_end P B (t - p) p (by unfold runTo at h; omega)
  · have := runTo_ge P B t p
    omega
def blB (v : Nat) : Bool := decide (v = 32)
def dgB (v : Nat) : Bool := decide (48 ≤ v) && decide (v ≤ 57)
def smB (v : Nat) : Bool := decide (97 ≤ v) && decide (v ≤ 122)
/-- where the next token begins -/
def skp (B : Nat → Nat) (t p : Nat) : Nat := runTo blB B t p
/-- a byte as the reference holds it -/
def sx (v : Nat) : Int32 := (nI v).toInt8.toInt32
theorem sx_32 : ∀ v, v < 256 → (sx v = 32 ↔ blB v = true) := by decide +kernel
theorem sx_dg : ∀ v, v < 256 → ((¬ sx v < 48 ∧ ¬ 57 < sx v) ↔ dgB v = true) := by decide +kernel
theorem sx_sm : ∀ v, v < 256 → ((¬ sx v < 97 ∧ ¬ 122 < sx v) ↔ smB v = true) := by decide +kernel
theorem sx_255 : ∀ v, v < 256 → sx v &&& 255 = nI v := by decide +kernel
theorem sx_lo : ∀ v, v < 128 → sx v = nI v := by decide +kernel
theorem and255 : ∀ k, k < 128 → nI k &&& 255 = nI k := by decide +kernel
theorem sx_eq {v k : Nat} (hv : v < 256) (hk : k < 128) : sx v = nI k ↔ v = k := by
  refine ⟨fun h => ?_, fun h => by subst h; exact sx_lo v hk⟩
  have h1 := sx_255 v hv
  rw [h, and255 k hk] at h1
  exact ((nI_eq (by omega) (by omega)).mp h1).symm
/-- the reference holds the text -/
def TxM (B : Nat → Nat) (t : Nat) (μ : Mz) : Prop := t ≤ 400 ∧ gi 0 μ = nI t ∧ ∀ i, i < t → B i < 256 ∧ ga 0 μ i = sx (B i)
theorem TxM.si {B : Nat → Nat} {t : Nat} {μ : Mz} (h : TxM B t μ) {k : Nat} (hk : k ≠ 0) (v : Int32) : TxM B t (si k v μ) := ⟨h.1, by rw [gi_si_ne (by omega)]; exact h.2.1, h.2.2⟩
theorem m_see38 (N : Nat) {B : Nat → Nat} {t p : Nat} {μ : Mz} (hT : TxM B t μ) (hp : p ≤ t) (h2 : gi 2 μ = nI p) : b12_see_38 N μ = some (if p = t then -1 else nI (B p), μ) := by
  obtain ⟨ht, h0, hB⟩ := hT
  unfold b12_see_38
  rw [h0, h2]
  by_cases e : p = t
  · subst e
    rw [if_pos (nI_le (Nat.le_refl p) (by omega)), if_pos rfl]
  · have hp2 : p < t := by omega
    rw [if_neg (nI_ge hp2 (by omega)), if_neg e, lt_s9, ck_t (inb_nI (show p < 400 by omega) (by decide)), clN (by omega), (hB p hp2).2, sx_255 _ (hB p hp2).1]
theorem m_see (N : Nat) (hN : 20000 ≤ N) {B : Nat → Nat} {t p : Nat} {μ : Mz} (hT : TxM B t μ) (hp : p ≤ t) (h2 : gi 2 μ = nI p) : p12_see N μ = some (if skp B t p = t then -1 else nI (B (skp B t p)), si 2 (nI (skp B t p)) μ) := by
  have L : ∀ (d p n : Nat) (μ : Mz), p + d = t → d < n → TxM B t μ → gi 2 μ = nI p → b12_see_0 N n μ = some (if skp B t p = t then -1 else nI (B (skp B t p)), si 2 (nI (skp B t p)) μ) := by
    intro d
    induction d with
    | zero =>
      intro p n μ hp hn hT h2
      obtain ⟨n, rfl⟩ : ∃ q, n = q + 1 := ⟨n - 1, by omega⟩
      have e : p = t := by omega
      have es : skp B t p = p := runTo_t _ _ (by omega)
      have h38 := m_see38 N hT (by omega) h2
      rw [b12_see_0, hT.2.1, h2, if_pos (nI_le (by omega) (by have := hT.1; omega)), h38, es, ← h2, si_gi]
    | succ d ih =>
      intro p n μ hp hn hT h2
      obtain ⟨n, rfl⟩ : ∃ q, n = q + 1 := ⟨n - 1, by omega⟩
      have ht := hT.1
      have hpt : p < t := by omega
      have hb := hT.2.2 p hpt
      rw [b12_see_0, hT.2.1, h2, if_neg (nI_ge hpt (by omega)), lt_s9, ck_t (inb_nI (show p < 400 by omega) (by decide)), clN (by omega), hb.2]
      by_cases z : blB (B p) = true
      · rw [if_pos ((sx_32 _ hb.1).mpr z), lt_s9, nI_1, ih (p + 1) n _ (by omega) (by omega) (hT.si (by decide) _) (gi_si _ _ _), si_si]
        have e : skp B t p = skp B t (p + 1) := runTo_y _ _ hpt z
        rw [e]
      · have es : skp B t p = p := runTo_n _ _ z
        have h38 := m_see38 N hT (by omega) h2
        rw [if_neg (fun y => z ((sx_32 _ hb.1).mp y)), h38, es, ← h2, si_gi]
  exact L (t - p) p N μ (by omega) (by have := hT.1; omega) hT h2
theorem m_isDigit (N : Nat) {B : Nat → Nat} {t p : Nat} {μ : Mz} (hT : TxM B t μ) (hp : p < 2 ^ 31) : p12_isDigit N (nI p) μ = some (if p < t ∧ dgB (B p) = true then 1 else 0, μ) := by
  obtain ⟨ht, h0, hB⟩ := hT
  unfold p12_isDigit
  rw [h0]
  by_cases e : p < t
  · have hb := hB p e
    rw [if_neg (nI_ge e (by omega)), ck_t (inb_nI (show p < 400 by omega) (by decide)), clN (by omega), hb.2]
    by_cases z : dgB (B p) = true
    · obtain ⟨z1, z2⟩ := (sx_dg _ hb.1).mpr z
      rw [if_neg z1, ck_t (inb_nI (show p < 400 by omega) (by decide)), if_neg z2, if_pos ⟨e, z⟩]
    · rw [if_neg (show ¬ (p < t ∧ dgB (B p) = true) from fun y => z y.2)]
      by_cases y : sx (B p) < 48
      · rw [if_pos y]
      · rw [if_neg y, ck_t (inb_nI (show p < 400 by omega) (by decide))]
        by_cases x : 57 < sx (B p)
        · rw [if_pos x]
        · exact absurd ((sx_dg _ hb.1).mp ⟨y, x⟩) z
  · rw [if_pos (nI_le (by omega) hp), if_neg (fun y => e y.1)]
theorem m_isLetter (N : Nat) {B : Nat → Nat} {t p : Nat} {μ : Mz} (hT : TxM B t μ) (hp : p < 2 ^ 31) : p12_isLetter N (nI p) μ = some (if p < t ∧ smB (B p) = true then 1 else 0, μ) := by
  obtain ⟨ht, h0, hB⟩ := hT
  unfold p12_isLetter
  rw [h0]
  by_cases e : p < t
  · have hb := hB p e
    rw [if_neg (nI_ge e (by omega)), ck_t (inb_nI (show p < 400 by omega) (by decide)), clN (by omega), hb.2]
    by_cases z : smB (B p) = true
    · obtain ⟨z1, z2⟩ := (sx_sm _ hb.1).mpr z
      rw [if_neg z1, ck_t (inb_nI (show p < 400 by omega) (by decide)), if_neg z2, if_pos ⟨e, z⟩]
    · rw [if_neg (show ¬ (p < t ∧ smB (B p) = true) from fun y => z y.2)]
      by_cases y : sx (B p) < 97
      · rw [if_pos y]
      · rw [if_neg y, ck_t (inb_nI (show p < 400 by omega) (by decide))]
        by_cases x : 122 < sx (B p)
        · rw [if_pos x]
        · exact absurd ((sx_sm _ hb.1).mp ⟨y, x⟩) z
  · rw [if_pos (nI_le (by omega) hp), if_neg (fun y => e y.1)]
/-- behind the word at p -/
theorem m_passWord (N : Nat) (hN : 20000 ≤ N) {B : Nat → Nat} {t p : Nat} {μ : Mz} (hT : TxM B t μ) (hp : p ≤ t) (h2 : gi 2 μ = nI p) : p12_passWord N μ = some (si 2 (nI (runTo smB B t p)) μ) := by
  have L : ∀ (d p n : Nat) (μ : Mz), p + d = t → d < n → TxM B t μ → gi 2 μ = nI p → b12_passWord_0 N n μ = some (si 2 (nI (runTo smB B t p)) μ) := by
    intro d
    induction d with
    | zero =>
      intro p n μ hp hn hT h2
      obtain ⟨n, rfl⟩ : ∃ q, n = q + 1 := ⟨n - 1, by omega⟩
      have ht := hT.1
      rw [b12_passWord_0, h2, m_isLetter N hT (by omega), bd_s, ite10, if_neg (show ¬ (p < t ∧ smB (B p) = true) from fun z => absurd z.1 (by omega)), runTo_t _ _ (by omega), ← h2, si_gi]
    | succ d ih =>
      intro p n μ hp hn hT h2
      obtain ⟨n, rfl⟩ : ∃ q, n = q + 1 := ⟨n - 1, by omega⟩
      have ht := hT.1
      rw [b12_passWord_0, h2, m_isLetter N hT (by omega), bd_s, ite10]
      by_cases z : smB (B p) = true
      · rw [if_pos ⟨by omega, z⟩, lt_s9, h2, nI_1, ih (p + 1) n _ (by omega) (by omega) (hT.si (by decide) _) (gi_si _ _ _), si_si, runTo_y _ _ (by omega) z]
      · rw [if_neg (fun y => z y.2), runTo_n _ _ z, ← h2, si_gi]
  exact L (t - p) p N μ (by omega) (by have := hT.1; omega) hT h2
/-- the number of the first k digits from p on -/
def numV (B : Nat → Nat) (p : Nat) : Nat → Nat
  | 0 => 0
  | k + 1 => 10 * numV B p k + (B (p + k) - 48)
theorem numV_lt (B : Nat → Nat) (p : Nat) : ∀ k, (∀ i, i < k → dgB (B (p + i)) = true) → numV B p k < 10 ^ k
  | 0, _ => by simp [numV]
  | k + 1, h => by
    have h1 := numV_lt B p k (fun i hi => h i (by omega))
    have h2 := h k (by omega)
    unfold dgB at h2
    simp only [Bool.and_eq_true, decide_eq_true_eq] at h2
    rw [numV, Nat.pow_succ]
    omega
/-- a fault of the reference -/
def flt (w s : Nat) (μ : Mz) : Mz := if gi 3 μ = 0 then si 3 (nI (1 + 8 * s + w)) μ else μ
theorem m_fails (N : Nat) {s w : Nat} (x : Int32) (hx : x = nI w) (μ : Mz) : p12_fails N x (nI s) μ = some (0, flt w s μ) := by
  subst hx
  unfold p12_fails flt
  rw [show (1 : Int32) + 8 * nI s + nI w = nI (1 + 8 * s + w) by rw [show (8 : Int32) = nI 8 from rfl, show (1 : Int32) = nI 1 from rfl, pk_mul, nI_add, nI_add]]
  split <;> rfl
