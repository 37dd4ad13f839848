/-! ring -/
theorem or_nI {a b : Nat} (ha : a < 2 ^ 32) (hb : b < 2 ^ 32) : nI a ||| nI b = nI (a ||| b) := by
  apply Int32.toBitVec_inj.mp
  apply BitVec.eq_of_toNat_eq
  rw [Int32.toBitVec_or, BitVec.toNat_or, pk_tn ha, pk_tn hb, pk_tn (Nat.or_lt_two_pow ha hb)]
/-- ten digits of three bits -/
def pkN (v : Nat → Nat) : Nat → Nat
  | 0 => 0
  | n + 1 => pkN v n * 8 + v n
theorem pkN_lt {v : Nat → Nat} (hv : ∀ k, k < 10 → v k < 8) : ∀ n, n ≤ 10 → pkN v n < 8 ^ n
  | 0, _ => (by decide : 0 < 8 ^ 0)
  | n + 1, h => by
    have h1 := pkN_lt hv n (by omega)
    have h2 := hv n (by omega)
    rw [pkN, Nat.pow_succ]
    omega
theorem pkN_inj {v w : Nat → Nat} (hv : ∀ k, k < 10 → v k < 8) (hw : ∀ k, k < 10 → w k < 8) : ∀ n, n ≤ 10 → (pkN v n = pkN w n ↔ ∀ k, k < n → v k = w k)
  | 0, _ => ⟨fun _ k hk => absurd hk (by omega), fun _ => rfl⟩
  | n + 1, h => by
    have ih := pkN_inj hv hw n (by omega)
    have h1 := hv n (by omega)
    have h2 := hw n (by omega)
    rw [pkN, pkN]
    constructor
    · intro e k hk
      have e1 : pkN v n = pkN w n := by omega
      have e2 : v n = w n := by omega
      by_cases z : k = n
      · rw [z]; exact e2
      · exact ih.mp e1 k (by omega)
    · intro e
      rw [ih.mpr (fun k hk => e k (by omega)), e n (by omega)]
/-- the digits of what is put -/
def dg (S : Nat → Int32) (k : Nat) : Nat := (S (13 + k)).toNatClampNeg
theorem dg_8 {S : Nat → Int32} (h : PV S) {k : Nat} (hk : k < 10) : dg S k < 8 ∧ S (13 + k) = nI (dg S k) := by
  obtain ⟨v, h1, h2⟩ := h k hk
  unfold dg
  rw [h2, clN (by omega)]
  exact ⟨h1, rfl⟩
theorem pow8_10 : ∀ n, n ≤ 9 → 8 ^ n * 8 ≤ 1073741824 := by decide
theorem c_packed (N : Nat) (hN : 20000 ≤ N) {A : Nat → Nat} {κ : Cz} {b : Nat} {S : Nat → Int32} (ht : sSt κ A b) (hS : St κ A b S) (hp : PV S) : p_ErrataRow_packed N (A (b + 1)) κ = some (nI (pkN (dg S) 10), κ) := by
  have L := upL 10 (fun f i => b_ErrataRow_packed_4 N f (A (b + 1)) (nI (pkN (dg S) i)) (nI i) κ = some (nI (pkN (dg S) 10), κ)) (by
    intro f
    rw [b_ErrataRow_packed_4]
    simp -implicitDefEqProofs only [ht, ck_1]
    rw [if_pos (nI_le (Nat.le_refl 10) (by omega))]) (by
    intro f i hi ih
    have hl := pkN_lt (v := dg S) (fun k hk => (dg_8 hp hk).1) i (by omega)
    have h8 := pow8_10 i (by omega)
    obtain ⟨d1, d2⟩ := dg_8 hp hi
    have e1 : nI (pkN (dg S) i) <<< (3 &&& 31) = nI (pkN (dg S) i * 8) := pk_shlN (n := pkN (dg S) i) _ 3 (by decide) (by omega)
    have e2 : nI (pkN (dg S) i * 8) ||| nI (dg S i) = nI (pkN (dg S) (i + 1)) := by
      rw [or_nI (by omega) (by omega), pkN]
      congr 1
      have := Nat.two_pow_add_eq_or_of_lt (i := 3) (b := dg S i) d1 (pkN (dg S) i)
      rw [show 2 ^ 3 * pkN (dg S) i = pkN (dg S) i * 8 by omega] at this
      exact this.symm
    rw [b_ErrataRow_packed_4]
    simp -implicitDefEqProofs only [ht, ck_1, inbT hi (by decide), clN (show i < 2147483648 by omega), hS.2.2.2.1 i hi, d2, e1, e2, lt_s9, nI_1]
    rw [if_neg (nI_ge hi (by omega))]
    exact ih) N 0 (by omega) (by omega)
  rw [nI_0] at L
  exact L
theorem packed_eq {S T : Nat → Int32} (hS : PV S) (hT : PV T) : nI (pkN (dg S) 10) = nI (pkN (dg T) 10) ↔ ∀ k, k < 10 → S (13 + k) = T (13 + k) := by
  have h1 := pkN_lt (v := dg S) (fun k hk => (dg_8 hS hk).1) 10 (by omega)
  have h2 := pkN_lt (v := dg T) (fun k hk => (dg_8 hT hk).1) 10 (by omega)
  rw [nI_eq (by omega) (by omega), pkN_inj (fun k hk => (dg_8 hS hk).1) (fun k hk => (dg_8 hT hk).1) 10 (by omega)]
  constructor
  · intro e k hk
    rw [(dg_8 hS hk).2, (dg_8 hT hk).2, e k hk]
  · intro e k hk
    unfold dg
    rw [e k hk]
/-- what was put then: X j behind j editions -/
def RgC (κ : Cz) (A : Nat → Nat) (X : Nat → Nat → Int32) (n : Nat) : Prop := ∀ j, j < n → ai κ (A 71) j = nI (pkN (dg (X j)) 10)
def RgM (μ : Mz) (c : Nat) (X : Nat → Nat → Int32) (n : Nat) : Prop := ∀ j, j < n → ∀ k, k < c → ga 14 μ (10 * j + k) = X j (13 + k)
def RgX (S : Nat → Int32) (c : Nat) (X : Nat → Nat → Int32) (n : Nat) : Prop := ∀ j, j < n → PV (X j) ∧ ∀ k, c ≤ k → k < 10 → X j (13 + k) = S (13 + k)
def alk (X : Nat → Nat → Int32) (c a b : Nat) : Prop := ∀ k, k < c → X a (13 + k) = X b (13 + k)
theorem alk_c {S : Nat → Int32} {c n a b : Nat} {X : Nat → Nat → Int32} {κ : Cz} {A : Nat → Nat} (hc : c ≤ 10) (hX : RgX S c X n) (hC : RgC κ A X n) (ha : a < n) (hb : b < n) : ai κ (A 71) a = ai κ (A 71) b ↔ alk X c a b := by
  rw [hC a ha, hC b hb, packed_eq (hX a ha).1 (hX b hb).1]
  constructor
  · intro e k hk
    exact e k (by omega)
  · intro e k hk
    by_cases z : k < c
    · exact e k z
    · rw [(hX a ha).2 k (by omega) hk, (hX b hb).2 k (by omega) hk]
theorem m_areAlike (N : Nat) (hN : 20000 ≤ N) {μ : Mz} {c h n a b : Nat} {X : Nat → Nat → Int32} (hb0 : ga 7 μ 0 = 1) (h3 : ga 7 μ 3 = nI c) (hc : c ≤ 10) (h2 : ga 7 μ 2 = nI h) (h12 : h ≤ 12) (hM : RgM μ c X n) (hn : n ≤ 61) (hab : a < b) (hbn : b < n) : ∃ q : Bool, (q = true ↔ (b - a) % sRd h = 0 ∧ alk X c a b) ∧ p12_areAlike N (nI a) (nI b) μ = some (if q = true then 1 else 0, μ) := by
  have hr := sRd_b h12
  have hnz : nz (nI (sRd h)) = true := decide_eq_true (nI_ne0 (by omega) (by omega))
  unfold p12_areAlike
  rw [m_rounds N μ hb0 h2 h12, bd_s, hnz, ck_1, pk_sub (show a ≤ b by omega), pk_rem (show b - a < 2 ^ 31 by omega) (by omega) (by omega)]
  by_cases hz : (b - a) % sRd h = 0
  · rw [hz, if_pos (show nI 0 = 0 by decide)]
    have L := upL c (fun f i => ∃ q : Bool, (q = true ↔ ∀ k, i ≤ k → k < c → X a (13 + k) = X b (13 + k)) ∧ b12_areAlike_15 N f (nI a) (nI b) (nI i) μ = some (if q = true then 1 else 0, μ)) (by
      intro f
      refine ⟨true, ⟨fun _ k h1 h2 => absurd h1 (by omega), fun _ => rfl⟩, ?_⟩
      rw [b12_areAlike_15, show ga 7 μ (3 : Int32).toNatClampNeg = nI c from h3, if_pos (nI_le (Nat.le_refl c) (by omega)), if_pos rfl]) (by
      intro f i hi ih
      have ea : (10 : Int32) * nI a + nI i = nI (10 * a + i) := by rw [show (10 : Int32) = nI 10 from rfl, pk_mul, nI_add]
      have eb : (10 : Int32) * nI b + nI i = nI (10 * b + i) := by rw [show (10 : Int32) = nI 10 from rfl, pk_mul, nI_add]
      rw [b12_areAlike_15, show ga 7 μ (3 : Int32).toNatClampNeg = nI c from h3, if_neg (nI_ge hi (by omega)), ea, eb]
      simp -implicitDefEqProofs only [lt_s9, ck_1, inbT (show 10 * a + i < 610 by omega) (by decide), inbT (show 10 * b + i < 610 by omega) (by decide), clN (show 10 * a + i < 2147483648 by omega), clN (show 10 * b + i < 2147483648 by omega), hM a (by omega) i hi, hM b hbn i hi, nI_1]
      by_cases z : X a (13 + i) = X b (13 + i)
      · rw [if_pos z]
        obtain ⟨q, q1, q2⟩ := ih
        refine ⟨q, q1.trans ⟨fun e k h1 h2 => ?_, fun e k h1 h2 => e k (by omega) h2⟩, q2⟩
        by_cases y : k = i
        · rw [y]; exact z
        · exact e k (by omega) h2
      · rw [if_neg z]
        exact ⟨false, ⟨fun y => (nomatch y), fun e => absurd (e i (Nat.le_refl i) hi) z⟩, rfl⟩) N 0 (by omega) (by omega)
    rw [nI_0] at L
    obtain ⟨q, q1, q2⟩ := L
    exact ⟨q, q1.trans ⟨fun e => ⟨rfl, fun k hk => e k (by omega) hk⟩, fun e k _ hk => e.2 k hk⟩, q2⟩
  · rw [if_neg (fun z => hz ((nI_eq (b := 0) (by have := Nat.mod_le (b - a) (sRd h); omega) (by omega)).mp (z.trans nI_0.symm)))]
    exact ⟨false, ⟨fun y => (nomatch y), fun e => absurd e.1 hz⟩, rfl⟩
/-- the answer: where, or how much later -/
def rgR (e : Nat) (w : Int32) (i l : Nat) : Int32 := if w = 0 then nI (e + i) else nI l
theorem ring2 (N : Nat) (hN : 20000 ≤ N) {A : Nat → Nat} {κ : Cz} {μ : Mz} {S : Nat → Int32} {c h e : Nat} {X : Nat → Nat → Int32} (hs : Sh κ A) (hb0 : ga 7 μ 0 = 1) (h3 : ga 7 μ 3 = nI c) (hc : c ≤ 10) (h2 : ga 7 μ 2 = nI h) (h12 : h ≤ 12) (h10 : ga 7 μ 10 = nI e) (h29 : fi κ (A 29) 5 = nI e) (hX : RgX S c X 61) (hC : RgC κ A X 61) (hM : RgM μ c X 61) (w : Int32) : ∃ r, b_ErrataRow_ring_90 N N (A 0) w (nI (sRd h)) 0 κ = some (r, κ) ∧ b12_ring_86 N N w 0 μ = some (r, μ) := by
  have hr := sRd_b h12
  -- the class's inner loop
  have inC : ∀ (k90 : Nat → Int32 → Int32 → Int32 → Cz → Option (Int32 × Cz)) (i : Nat), i < 60 → ∀ (f m : Nat), 1 ≤ m → m ≤ 61 → 62 ≤ f + m → (∃ m', m ≤ m' ∧ i + sRd h * m' ≤ 60 ∧ alk X c i (i + sRd h * m') ∧ (∀ m2, m ≤ m2 → m2 < m' → ¬ alk X c i (i + sRd h * m2)) ∧ b_ErrataRow_ring_99 N k90 f (A 0) w (nI (sRd h)) (nI i) (nI (sRd h * m)) κ = some (rgR e w i (sRd h * m'), κ)) ∨ ((∀ m2, m ≤ m2 → i + sRd h * m2 ≤ 60 → ¬ alk X c i (i + sRd h * m2)) ∧ b_ErrataRow_ring_99 N k90 f (A 0) w (nI (sRd h)) (nI i) (nI (sRd h * m)) κ = k90 (A 0) w (nI (sRd h)) (nI (i + 1)) κ) := by
    intro k90 i hi f
    induction f with
    | zero => intro m m1 m2 m3; exact absurd m3 (by omega)
    | succ f ih =>
      intro m m1 m2 m3
      have hmm : m ≤ sRd h * m := Nat.le_mul_of_pos_left m (by omega)
      have hm12 : sRd h * m ≤ 12 * m := Nat.mul_le_mul_right m hr.2
      rw [b_ErrataRow_ring_99, nI_add]
      by_cases hz : 60 < i + sRd h * m
      · right
        rw [if_pos (show (60 : Int32) < nI (i + sRd h * m) from nI_lt (a := 60) hz (by omega)), lt_s9, nI_1]
        refine ⟨fun m4 h4 h5 => ?_, rfl⟩
        have : sRd h * m ≤ sRd h * m4 := Nat.mul_le_mul_left _ h4
        omega
      · rw [if_neg (show ¬ (60 : Int32) < nI (i + sRd h * m) from nI_nlt (a := 60) (by omega) (by omega))]
        simp -implicitDefEqProofs only [hs.top, hs.w20, ck_1, bo_s, lt_s9, inbT (show i < 61 by omega) (by decide), inbT (show i + sRd h * m < 61 by omega) (by decide), clN (show i < 2147483648 by omega), clN (show i + sRd h * m < 2147483648 by omega), h29, nI_add]
        by_cases hq : alk X c i (i + sRd h * m)
        · left
          rw [if_pos ((alk_c hc hX hC (by omega) (by omega)).mpr hq)]
          refine ⟨m, Nat.le_refl m, by omega, hq, fun m4 h4 h5 => by omega, ?_⟩
          unfold rgR
          by_cases hw : w = 0
          · rw [if_pos hw, if_pos hw]
          · rw [if_neg hw, if_neg hw]
        · rw [if_neg (fun z => hq ((alk_c hc hX hC (by omega) (by omega)).mp z)), show sRd h * m + sRd h = sRd h * (m + 1) from (Nat.mul_succ _ _).symm]
          rcases ih (m + 1) (by omega) (by omega) (by omega) with ⟨m', g1, g2, g3, g4, g5⟩ | ⟨g1, g2⟩
          · refine Or.inl ⟨m', by omega, g2, g3, fun m4 h4 h5 => ?_, g5⟩
            by_cases y : m4 = m
            · rw [y]; exact hq
            · exact g4 m4 (by omega) h5
          · refine Or.inr ⟨fun m4 h4 h5 => ?_, g2⟩
            by_cases y : m4 = m
            · rw [y]; exact hq
            · exact g1 m4 (by omega) h5
  -- the reference's
  have inM : ∀ (k86 : Int32 → Int32 → Mz → Option (Int32 × Mz)) (i : Nat), i < 60 → ∀ (f b : Nat), i < b → b ≤ 61 → 62 ≤ f + b → (∃ b', b ≤ b' ∧ b' ≤ 60 ∧ ((b' - i) % sRd h = 0 ∧ alk X c i b') ∧ (∀ b2, b ≤ b2 → b2 < b' → ¬ ((b2 - i) % sRd h = 0 ∧ alk X c i b2)) ∧ b12_ring_96 N k86 f w (nI i) (nI b) μ = some (rgR e w i (b' - i), μ)) ∨ ((∀ b2, b ≤ b2 → b2 ≤ 60 → ¬ ((b2 - i) % sRd h = 0 ∧ alk X c i b2)) ∧ b12_ring_96 N k86 f w (nI i) (nI b) μ = k86 w (nI (i + 1)) μ) := by
    intro k86 i hi f
    induction f with
    | zero => intro b b1 b2 b3; exact absurd b3 (by omega)
    | succ f ih =>
      intro b b1 b2 b3
      rw [b12_ring_96]
      by_cases hz : 60 < b
      · right
        rw [if_pos (show (60 : Int32) < nI b from nI_lt (a := 60) hz (by omega)), lt_s9, nI_1]
        exact ⟨fun b4 h4 h5 => by omega, rfl⟩
      · obtain ⟨q, q1, q2⟩ := m_areAlike N hN hb0 h3 hc h2 h12 hM (by omega) b1 (show b < 61 by omega)
        rw [if_neg (show ¬ (60 : Int32) < nI b from nI_nlt (a := 60) (by omega) (by omega)), q2, bd_s, ite10, show ga 7 μ (10 : Int32).toNatClampNeg = nI e from h10, nI_add, pk_sub (show i ≤ b by omega), lt_s9, nI_1]
        by_cases hq : q = true
        · left
          rw [if_pos hq]
          refine ⟨b, Nat.le_refl b, by omega, q1.mp hq, fun b4 h4 h5 => by omega, ?_⟩
          unfold rgR
          by_cases hw : w = 0
          · rw [if_pos hw, if_pos hw]
          · rw [if_neg hw, if_neg hw]
        · rw [if_neg hq]
          rcases ih (b + 1) (by omega) (by omega) (by omega) with ⟨b', g1, g2, g3, g4, g5⟩ | ⟨g1, g2⟩
          · refine Or.inl ⟨b', by omega, g2, g3, fun b4 h4 h5 => ?_, g5⟩
            by_cases y : b4 = b
            · rw [y]; exact fun z => hq (q1.mpr z)
            · exact g4 b4 (by omega) h5
          · refine Or.inr ⟨fun b4 h4 h5 => ?_, g2⟩
            by_cases y : b4 = b
            · rw [y]; exact fun z => hq (q1.mpr z)
            · exact g1 b4 (by omega) h5
  have L := upL 60 (fun f i => ∃ r, b_ErrataRow_ring_90 N f (A 0) w (nI (sRd h)) (nI i) κ = some (r, κ) ∧ b12_ring_86 N f w (nI i) μ = some (r, μ)) (by
    intro f
    refine ⟨-2, ?_, ?_⟩
    · rw [b_ErrataRow_ring_90, if_pos (show (60 : Int32) ≤ nI 60 from nI_le (a := 60) (b := 60) (by omega) (by omega))]
    · rw [b12_ring_86, if_pos (show (60 : Int32) ≤ nI 60 from nI_le (a := 60) (b := 60) (by omega) (by omega))]) (by
    intro f i hi ih
    have n60 : ¬ (60 : Int32) ≤ nI i := nI_ge (b := 60) hi (by omega)
    rw [b_ErrataRow_ring_90, b12_ring_86, if_neg n60, if_neg n60, lt_s9, nI_1]
    have hC1 := inC (b_ErrataRow_ring_90 N f) i hi N 1 (by omega) (by omega) (by omega)
    have hM1 := inM (b12_ring_86 N f) i hi N (i + 1) (by omega) (by omega) (by omega)
    rw [Nat.mul_one] at hC1
    have mulmod : ∀ m, (i + sRd h * m - i) % sRd h = 0 := fun m => by rw [Nat.add_sub_cancel_left, Nat.mul_mod_right]
    rcases hC1 with ⟨m', g1, g2, g3, g4, g5⟩ | ⟨g1, g2⟩
    · have hmm : m' ≤ sRd h * m' := Nat.le_mul_of_pos_left m' (by omega)
      rcases hM1 with ⟨b', f1, f2, f3, f4, f5⟩ | ⟨f1, f2⟩
      · -- both found: the same
        have hd : sRd h ∣ b' - i := Nat.dvd_of_mod_eq_zero f3.1
        obtain ⟨mb, hmb⟩ := hd
        have hmb1 : 1 ≤ mb := by
          rcases Nat.eq_zero_or_pos mb with y | y
          · rw [y, Nat.mul_zero] at hmb; omega
          · exact y
        have e1 : b' = i + sRd h * mb := by omega
        have e2 : mb = m' := by
          rcases Nat.lt_trichotomy mb m' with y | y | y
          · exact absurd (e1 ▸ f3.2) (g4 mb hmb1 y)
          · exact y
          · have hlt : sRd h * m' < sRd h * mb := Nat.mul_lt_mul_of_pos_left y (by omega)
            exact absurd ⟨mulmod m', g3⟩ (f4 (i + sRd h * m') (by omega) (by omega))
        rw [g5, f5, hmb, e2]
        exact ⟨_, rfl, rfl⟩
      · exact absurd ⟨mulmod m', g3⟩ (f1 (i + sRd h * m') (by omega) (by omega))
    · rcases hM1 with ⟨b', f1, f2, f3, f4, f5⟩ | ⟨f1, f2⟩
      · have hd : sRd h ∣ b' - i := Nat.dvd_of_mod_eq_zero f3.1
        obtain ⟨mb, hmb⟩ := hd
        have hmb1 : 1 ≤ mb := by
          rcases Nat.eq_zero_or_pos mb with y | y
          · rw [y, Nat.mul_zero] at hmb; omega
          · exact y
        have e1 : b' = i + sRd h * mb := by omega
        exact absurd (e1 ▸ f3.2) (g1 mb hmb1 (by omega))
      · rw [g2, f2]
        exact ih) N 0 (by omega) (by omega)
  rw [nI_0] at L
  exact L
theorem sm_ring (N : Nat) (hN : 20000 ≤ N) (x0 : Nat) : Sm_ring N x0 (Rel x0) := by
  rintro κ μ a1 ⟨A, rfl, hR⟩
  have hs := hR.sh
  have hA := hs.inj
  obtain ⟨c, h, e, q, nn, hO⟩ := hR.ok
  have hc10 : c ≤ 10 := hO.1
  have h12 : h ≤ 12 := hO.2.2.1
  have he : e ≤ 999 := hO.2.2.2.2.1
  have h3 : ga 7 μ 3 = nI c := hO.2.1
  have h2 : ga 7 μ 2 = nI h := hO.2.2.2.1
  have h10 : ga 7 μ 10 = nI e := hO.2.2.2.2.2.1
  have h0 : fi κ (A 21) 0 = ga 7 μ 0 := hR.wd.1.1
  unfold p_ErrataRow_ring p12_ring
  simp -implicitDefEqProofs only [hs.top, hs.w20, ck_1, bo_s, bd_s, c_within, m_in N a1 0 1 0 1 (by decide) (by decide), m_isBook, h0, ite10]
  rcases told_or hO with hb | hb
  · simp only [hb, ne10, if_true, if_false]
    by_cases hw : 0 ≤ a1 ∧ a1 ≤ 1
    · rw [if_pos hw, if_pos hw]
      obtain ⟨κ1, μ1, e1, ek, g1, hT1, m1, hK1, sb1, h71⟩ := q_begin N hN hR hO hb
      -- what is put is kept
      have keep : ∀ (k25 : Int32 → Int32 → Mz → Option (Int32 × Mz)) (n : Nat), n ≤ 60 → ∀ (f i : Nat), i ≤ c → c < f + i → ∀ (μ2 : Mz), ga 7 μ2 3 = nI c → ∃ F : Nat → Int32, b12_ring_33 N k25 f a1 (nI n) (nI i) μ2 = bd (p12_passes N (sa 14 F μ2)) (fun r9 μ9 => lt (nI n + 1) (fun v10 => k25 a1 v10 μ9)) ∧ (∀ k, i ≤ k → k < c → F (10 * n + k) = ga 7 μ2 (13 + k)) ∧ ∀ j, (∀ k, i ≤ k → k < c → j ≠ 10 * n + k) → F j = ga 14 μ2 j := by
        intro k25 n hn
        refine upL c (fun f i => ∀ (μ2 : Mz), ga 7 μ2 3 = nI c → ∃ F : Nat → Int32, b12_ring_33 N k25 f a1 (nI n) (nI i) μ2 = bd (p12_passes N (sa 14 F μ2)) (fun r9 μ9 => lt (nI n + 1) (fun v10 => k25 a1 v10 μ9)) ∧ (∀ k, i ≤ k → k < c → F (10 * n + k) = ga 7 μ2 (13 + k)) ∧ ∀ j, (∀ k, i ≤ k → k < c → j ≠ 10 * n + k) → F j = ga 14 μ2 j) ?_ ?_
        · intro f μ2 hc2
          refine ⟨ga 14 μ2, ?_, fun k h1 h2 => absurd h1 (by omega), fun j _ => rfl⟩
          rw [b12_ring_33, show ga 7 μ2 (3 : Int32).toNatClampNeg = nI c from hc2, if_pos (nI_le (Nat.le_refl c) (by omega)), sa_ga]
        · intro f i hi ih μ2 hc2
          have en : (10 : Int32) * nI n + nI i = nI (10 * n + i) := by rw [show (10 : Int32) = nI 10 from rfl, pk_mul, nI_add]
          have e13 : (13 : Int32) + nI i = nI (13 + i) := nI_add 13 i
          obtain ⟨F, f1, f2, f3⟩ := ih (sa 14 (upd (ga 14 μ2) (10 * n + i) (ga 7 μ2 (13 + i))) μ2) (by rw [ga_sa_ne (by decide)]; exact hc2)
          rw [sa_sa] at f1
          refine ⟨F, ?_, fun k h1 h2 => ?_, fun j hj => ?_⟩
          · rw [b12_ring_33, show ga 7 μ2 (3 : Int32).toNatClampNeg = nI c from hc2, if_neg (nI_ge hi (by omega)), en, e13]
            simp -implicitDefEqProofs only [lt_s9, ck_1, inbT (show 10 * n + i < 610 by omega) (by decide), clN (show 10 * n + i < 2147483648 by omega), inbT (show 13 + i < 129 by omega) (by decide), clN (show 13 + i < 2147483648 by omega), nI_1]
            rw [f1]
            simp only [lt_s9, nI_1]
          · by_cases z : k = i
            · rw [z, f3 _ (fun k2 y1 y2 => by omega), ga_sa, upd_at, if_pos rfl]
            · rw [f2 k (by omega) h2, ga_sa_ne (by decide)]
          · rw [f3 j (fun k y1 y2 => hj k (by omega) y2), ga_sa, upd_at, if_neg (hj i (Nat.le_refl i) hi)]
      have L := upL 61 (fun f i => ∀ (κ : Cz) (μ2 : Mz) (X : Nat → Nat → Int32), TR A κ μ2 c h (e + i) → Kp μ2 (ga 7 μ) → Sb (ga 7 μ) (ga 7 μ2) → (∀ j, 13 + c ≤ j → j < 23 → ga 7 μ2 j = ga 7 μ j) → RgX (ga 7 μ) c X i → RgC κ A X i → RgM μ2 c X i → fi κ (A 29) 5 = nI e → ∃ (r : Int32) (κ' : Cz) (μ' : Mz), b_ErrataRow_ring_37 N f (A 0) a1 (nI i) κ = some (r, κ') ∧ b12_ring_25 N f a1 (nI i) μ2 = some (r, μ') ∧ Chg A (fun r => Lp 66 r ∨ r = 71) κ κ' ∧ Mq μ2 μ' ∧ ga 7 μ' = ga 7 μ) (by
        intro f κ μ2 X hT hK sb hbe hX hC hM h29
        have hs := hT.1
        have hl := m_back N (by omega) hK sb
        have hh : fi κ (A 21) 3 = nI h := hT.2.1.2.2.2.1.trans hT.2.2.2.1.2.2.2.1
        obtain ⟨r, p1, p2⟩ := ring2 N hN (μ := sa 7 (ga 7 μ) μ2) (S := ga 7 μ) (c := c) (h := h) (e := e) (X := X) hs (by rw [ga_sa]; exact hb) (by rw [ga_sa]; exact h3) hc10 (by rw [ga_sa]; exact h2) h12 (by rw [ga_sa]; exact h10) h29 hX hC (fun j hj k hk => by rw [ga_sa_ne (by decide)]; exact hM j hj k hk) a1
        refine ⟨r, κ, _, ?_, ?_, Chg.refl _ _ _, Mq.row (Or.inl rfl) _, ga_sa _ _ _⟩
        · rw [b_ErrataRow_ring_37, if_pos (show (60 : Int32) < nI 61 from nI_lt (a := 60) (b := 61) (by omega) (by omega))]
          simp -implicitDefEqProofs only [hs.top, hs.w20, ck_1, bo_s, bd_s, c_round N hs h12 hh]
          exact p1
        · rw [b12_ring_25, if_pos (show (60 : Int32) < nI 61 from nI_lt (a := 60) (b := 61) (by omega) (by omega)), hl, bo_s]
          exact p2) (by
        intro f i hi ih κ μ2 X hT hK sb hbe hX hC hM h29
        have hs := hT.1
        have hO2 := hT.2.2.2.1
        have hp2 : PV (ga 7 μ2) := hO2.2.2.2.2.2.2.2.2.1
        have epk := c_packed N hN (b := 66) hs.st66 hT.2.2.1 hp2
        have n60 : ¬ (60 : Int32) < nI i := nI_nlt (a := 60) (by omega) (by omega)
        obtain ⟨F, f1, f2, f3⟩ := keep (b12_ring_25 N f) i (by omega) N 0 (by omega) (by omega) μ2 hO2.2.1
        rw [nI_0] at f1
        have hT2 : TR A (sai (A 71) (upd (ai κ (A 71)) i (nI (pkN (dg (ga 7 μ2)) 10))) κ) (sa 14 F μ2) c h (e + i) := hT.fram (Chg.sai (L := fun r => 70 ≤ r ∧ r ≤ 72) hs.inj κ (r := 71) (by omega) _) (Mq.row (by unfold Rq; omega) _) (ga_sa_ne (by decide) _ _)
        have hs2 := hT2.1
        obtain ⟨m, κ3, μ3, p1, p2, hT3, g3, mc3, sb3, -, -, -, -, z3, -⟩ := tr_pass N (by omega) hT2 (by omega)
        have h72 : ga 7 (sa 14 F μ2) = ga 7 μ2 := ga_sa_ne (by decide) _ _
        rw [h72] at sb3 z3
        have h14 : ga 14 μ3 = F := by rw [mc3.2.1 14 (by unfold Rp; omega), ga_sa]
        have g71 : ai κ3 (A 71) = upd (ai κ (A 71)) i (nI (pkN (dg (ga 7 μ2)) 10)) := by
          rw [g3.ai (by unfold Lp; omega), ai_ai, if_pos rfl]
        obtain ⟨r, κ', μ', q1, q2, q3, q4, q5⟩ := ih κ3 μ3 (fun j => if j = i then ga 7 μ2 else X j) hT3 ((hK.mq (ga_sa_ne (by decide) _ _)).mc mc3) (sb.trans sb3) (fun j j1 j2 => (z3 j j1 j2).trans (hbe j j1 j2)) (by
          intro j hj
          by_cases z : j = i
          · subst z
            simp only [if_true]
            exact ⟨hp2, fun k k1 k2 => hbe _ (by omega) (by omega)⟩
          · simp only [z, if_false]
            exact hX j (by omega)) (by
          intro j hj
          rw [g71, upd_at]
          by_cases z : j = i
          · simp only [z, if_true]
          · simp only [z, if_false]
            exact hC j (by omega)) (by
          intro j hj k hk
          rw [h14]
          by_cases z : j = i
          · subst z
            simp only [if_true]
            exact f2 k (by omega) hk
          · simp only [z, if_false]
            rw [f3 _ (fun k2 y1 y2 => by omega)]
            exact hM j (by omega) k hk) (by rw [g3.fi (by unfold Lp; omega), fi_ai]; exact h29)
        refine ⟨r, κ', μ', ?_, ?_, ((Chg.sai (L := fun r => Lp 66 r ∨ r = 71) hs.inj κ (r := 71) (Or.inr rfl) _).trans (g3.mono (fun r z => Or.inl z))).trans q3, ((Mq.row (k := 14) (by unfold Rq; omega) _).trans mc3.mq).trans q4, q5⟩
        · rw [b_ErrataRow_ring_37, if_neg n60]
          simp -implicitDefEqProofs only [hs.top, hs.tr, ck_1, bo_s, bd_s, epk, lt_s9, inbT (show i < 61 by omega) (by decide), clN (show i < 2147483648 by omega), hs2.top, hs2.pr, p1, nI_1]
          exact q1
        · rw [b12_ring_25, if_neg n60, f1, p2, bd_s, lt_s9, nI_1]
          exact q2) N 0 (by omega) (by omega) κ1 μ1 (fun _ => ga 7 μ) hT1 hK1 sb1 (fun j _ _ => by rw [h71]) (fun j hj => absurd hj (by omega)) (fun j hj => absurd hj (by omega)) (fun j hj => absurd hj (by omega)) (by rw [g1.fi (by unfold Dc; omega)]; exact hR.wd.2.2.1.1.trans h10)
      obtain ⟨r, κ2, μ2, p1, p2, g2, m2, h72⟩ := L
      rw [nI_0] at p1 p2
      rw [e1, ek, bo_s, bo_s, p1, p2]
      exact ⟨r, κ2, μ2, rfl, rfl, A, rfl, q_close hR (g1.trans (g2.ch.mono (fun r z => z.elim (Dc_Lp r) (fun y => by unfold Dc; omega)))) (m1.trans m2) h72⟩
    · rw [if_neg hw, if_neg hw]
      exact ⟨-1, κ, μ, rfl, rfl, A, rfl, hR⟩
  · simp only [hb, ne01, if_true, if_false]
    exact ⟨-1, κ, μ, rfl, rfl, A, rfl, hR⟩
