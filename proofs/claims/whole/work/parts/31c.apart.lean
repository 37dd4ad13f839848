/-! apart -/
def eN (S : Nat → Int32) (p q a : Nat) (r : Nat → Nat) : Nat → Nat
  | 0 => a + 1
  | b + 1 => min (r b + if S (13 + p + a) = S (13 + q + b) then 0 else 1) (min (r (b + 1)) (eN S p q a r b) + 1)
def eD (S : Nat → Int32) (p q : Nat) : Nat → Nat → Nat
  | 0 => fun b => b
  | a + 1 => eN S p q a (eD S p q a)
theorem eN_le (S : Nat → Int32) (p q a : Nat) (r : Nat → Nat) : ∀ b, eN S p q a r b ≤ a + 1 + b
  | 0 => Nat.le_refl _
  | b + 1 => by
    rw [eN]
    have := eN_le S p q a r b
    omega
theorem eD_le (S : Nat → Int32) (p q : Nat) : ∀ a b, eD S p q a b ≤ a + b
  | 0, b => by show b ≤ 0 + b; omega
  | a + 1, b => eN_le S p q a _ b
theorem eD_0 (S : Nat → Int32) (p q a : Nat) : eD S p q a 0 = a := by
  cases a <;> rfl
theorem eD_s (S : Nat → Int32) (p q a b : Nat) : eD S p q (a + 1) (b + 1) = min (eD S p q a b + if S (13 + p + a) = S (13 + q + b) then 0 else 1) (min (eD S p q a (b + 1)) (eD S p q (a + 1) b) + 1) := rfl
theorem minI {a b : Nat} (ha : a < 2 ^ 31) (hb : b < 2 ^ 31) : (if nI a < nI b then nI a else nI b) = nI (min a b) := by
  by_cases z : a < b
  · rw [if_pos (nI_lt z hb), Nat.min_eq_left (by omega)]
  · rw [if_neg (nI_nlt (by omega) ha), Nat.min_eq_right (by omega)]
theorem m_lesser (N : Nat) {a b : Nat} (ha : a < 2 ^ 31) (hb : b < 2 ^ 31) : p12_lesser N (nI a) (nI b) = some (nI (min a b)) := by
  unfold p12_lesser
  by_cases z : b ≤ a
  · rw [if_pos (nI_le z ha), Nat.min_eq_right z]
  · rw [if_neg (nI_ge (by omega) hb), Nat.min_eq_left (by omega)]
theorem c_apart (N : Nat) (hN : 20000 ≤ N) {A : Nat → Nat} {κ : Cz} {S : Nat → Int32} {p q n : Nat} (hs : Sh κ A) (hS : St κ A 29 S) (hn : 1 ≤ n) (hp : p + n ≤ 10) (hq : q + n ≤ 10) : ∃ κ1, b_ErrataRow_apart_73 N N (A 0) (nI p) (nI q) (nI n) (A 30) 0 κ = some (nI (eD S p q n n), κ1) ∧ Chg A (fun r => r = 71) κ κ1 := by
  have hA := hs.inj
  -- a row
  have row : ∀ (k97 : Nat → Int32 → Int32 → Int32 → Nat → Int32 → Cz → Option (Int32 × Cz)) (a : Nat), a < n → ∀ (f b : Nat), b ≤ n → n < f + b → ∀ (κ : Cz), Sh κ A → St κ A 29 S → (∀ j, j ≤ b → ai κ (A 71) j = nI (eD S p q (a + 1) j)) → (∀ j, b < j → j ≤ n → ai κ (A 71) j = nI (eD S p q a j)) → ∃ κ1, b_ErrataRow_apart_122 N k97 f (A 0) (nI p) (nI q) (nI n) (A 30) (nI (a + 1)) (nI (eD S p q a b)) (nI (b + 1)) κ = k97 (A 0) (nI p) (nI q) (nI n) (A 30) (nI (a + 1 + 1)) κ1 ∧ Chg A (fun r => r = 71) κ κ1 ∧ ∀ j, j ≤ n → ai κ1 (A 71) j = nI (eD S p q (a + 1) j) := by
    intro k97 a ha
    refine upL n (fun f b => ∀ (κ : Cz), Sh κ A → St κ A 29 S → (∀ j, j ≤ b → ai κ (A 71) j = nI (eD S p q (a + 1) j)) → (∀ j, b < j → j ≤ n → ai κ (A 71) j = nI (eD S p q a j)) → ∃ κ1, b_ErrataRow_apart_122 N k97 f (A 0) (nI p) (nI q) (nI n) (A 30) (nI (a + 1)) (nI (eD S p q a b)) (nI (b + 1)) κ = k97 (A 0) (nI p) (nI q) (nI n) (A 30) (nI (a + 1 + 1)) κ1 ∧ Chg A (fun r => r = 71) κ κ1 ∧ ∀ j, j ≤ n → ai κ1 (A 71) j = nI (eD S p q (a + 1) j)) ?_ ?_
    · intro f κ hs hS h1 h2
      refine ⟨κ, ?_, Chg.refl _ _ _, h1⟩
      rw [b_ErrataRow_apart_122, if_pos (nI_lt (by omega) (by omega)), lt_s9, nI_1]
    · intro f b hb ih κ hs hS h1 h2
      have e1 : nI p + nI (a + 1) - 1 = nI (p + a) := by rw [nI_add, show p + (a + 1) = p + a + 1 by omega, sub1]
      have e2 : nI q + nI (b + 1) - 1 = nI (q + b) := by rw [nI_add, show q + (b + 1) = q + b + 1 by omega, sub1]
      have a1 : ai κ (A 30) (p + a) = S (13 + p + a) := by rw [hS.2.2.2.1 (p + a) (by omega), show 13 + (p + a) = 13 + p + a by omega]
      have a2 : ai κ (A 30) (q + b) = S (13 + q + b) := by rw [hS.2.2.2.1 (q + b) (by omega), show 13 + (q + b) = 13 + q + b by omega]
      have b1 := h1 b (Nat.le_refl b)
      have b2 := h2 (b + 1) (by omega) (by omega)
      have l1 := eD_le S p q a b
      have l2 := eD_le S p q a (b + 1)
      have l3 := eD_le S p q (a + 1) b
      have v50 : (if nI (eD S p q (a + 1) b) < nI (eD S p q a (b + 1)) then nI (eD S p q (a + 1) b) else nI (eD S p q a (b + 1))) = nI (min (eD S p q a (b + 1)) (eD S p q (a + 1) b)) := by
        rw [minI (by omega) (by omega), Nat.min_comm]
      have es := eD_s S p q a b
      have fin : ∀ d : Nat, d = (if S (13 + p + a) = S (13 + q + b) then 0 else 1) → ∃ κ1, b_ErrataRow_apart_156 N k97 (b_ErrataRow_apart_122 N k97 f) (A 0) (nI p) (nI q) (nI n) (A 30) (nI (a + 1)) (nI (b + 1)) (nI d) (nI (eD S p q a b)) κ = k97 (A 0) (nI p) (nI q) (nI n) (A 30) (nI (a + 1 + 1)) κ1 ∧ Chg A (fun r => r = 71) κ κ1 ∧ ∀ j, j ≤ n → ai κ1 (A 71) j = nI (eD S p q (a + 1) j) := by
        intro d hd
        have hd1 : d ≤ 1 := by rw [hd]; split <;> omega
        rw [← hd] at es
        have v51 : (if nI (min (eD S p q a (b + 1)) (eD S p q (a + 1) b) + 1) < nI (eD S p q a b) + nI d then nI (min (eD S p q a (b + 1)) (eD S p q (a + 1) b) + 1) else nI (eD S p q a b) + nI d) = nI (eD S p q (a + 1) (b + 1)) := by
          rw [nI_add, minI (by omega) (by omega), es, Nat.min_comm]
        have g : Chg A (fun r => r = 71) κ (sai (A 71) (upd (ai κ (A 71)) (b + 1) (nI (eD S p q (a + 1) (b + 1)))) κ) := Chg.sai (L := fun r => r = 71) hA κ (r := 71) rfl _
        obtain ⟨κ1, q1, q2, q3⟩ := ih (sai (A 71) (upd (ai κ (A 71)) (b + 1) (nI (eD S p q (a + 1) (b + 1)))) κ) (hs.chg g) (hS.chg g (fun r z1 z2 z3 => by omega)) (by
          intro j hj
          rw [ai_ai, if_pos rfl, upd_at]
          by_cases z : j = b + 1
          · rw [if_pos z, z]
          · rw [if_neg z]; exact h1 j (by omega)) (by
          intro j j1 j2
          rw [ai_ai, if_pos rfl, upd_at, if_neg (by omega)]
          exact h2 j (by omega) j2)
        refine ⟨κ1, ?_, g.trans q2, q3⟩
        unfold b_ErrataRow_apart_156
        simp -implicitDefEqProofs only [hs.top, ck_1, bo_s, lt_s9, inbT (show b + 1 < 61 by omega) (by decide), clN (show b + 1 < 2147483648 by omega), sub1, inbT (show b < 61 by omega) (by decide), clN (show b < 2147483648 by omega), b1, b2, v50, v51, nI_1]
        exact q1
      rw [b_ErrataRow_apart_122, if_neg (nI_nlt (by omega) (by omega)), e1, e2]
      simp -implicitDefEqProofs only [hs.w20, ck_1, lt_s9, inbT (show p + a < 10 by omega) (by decide), clN (show p + a < 2147483648 by omega), inbT (show q + b < 10 by omega) (by decide), clN (show q + b < 2147483648 by omega), a1, a2]
      by_cases z : S (13 + p + a) = S (13 + q + b)
      · rw [if_pos z]
        exact fin 0 (by rw [if_pos z])
      · rw [if_neg z]
        exact fin 1 (by rw [if_neg z])
  have rows := upL n (fun f a => ∀ (κ : Cz), Sh κ A → St κ A 29 S → (∀ j, j ≤ n → ai κ (A 71) j = nI (eD S p q a j)) → ∃ κ1, b_ErrataRow_apart_97 N f (A 0) (nI p) (nI q) (nI n) (A 30) (nI (a + 1)) κ = some (nI (eD S p q n n), κ1) ∧ Chg A (fun r => r = 71) κ κ1) (by
    intro f κ hs hS h1
    refine ⟨κ, ?_, Chg.refl _ _ _⟩
    rw [b_ErrataRow_apart_97, if_pos (nI_lt (by omega) (by omega))]
    simp -implicitDefEqProofs only [hs.top, ck_1, bo_s, inbT (show n < 61 by omega) (by decide), clN (show n < 2147483648 by omega), h1 n (Nat.le_refl n)]) (by
    intro f a ha ih κ hs hS h1
    have j0 : inb (0 : Int32) 61 = true := by decide
    have g : Chg A (fun r => r = 71) κ (sai (A 71) (upd (ai κ (A 71)) 0 (nI (a + 1))) κ) := Chg.sai (L := fun r => r = 71) hA κ (r := 71) rfl _
    obtain ⟨κ1, q1, q2, q3⟩ := row (b_ErrataRow_apart_97 N f) a ha N 0 (by omega) (by omega) (sai (A 71) (upd (ai κ (A 71)) 0 (nI (a + 1))) κ) (hs.chg g) (hS.chg g (fun r z1 z2 z3 => by omega)) (by
      intro j hj
      have : j = 0 := by omega
      subst this
      rw [ai_ai, if_pos rfl, upd_at, if_pos rfl, eD_0]) (by
      intro j j1 j2
      rw [ai_ai, if_pos rfl, upd_at, if_neg (by omega)]
      exact h1 j j2)
    obtain ⟨κ2, r1, r2⟩ := ih κ1 ((hs.chg g).chg q2) ((hS.chg g (fun r z1 z2 z3 => by omega)).chg q2 (fun r z1 z2 z3 => by omega)) q3
    refine ⟨κ2, ?_, (g.trans q2).trans r2⟩
    rw [b_ErrataRow_apart_97, if_neg (nI_nlt (by omega) (by omega))]
    simp -implicitDefEqProofs only [hs.top, ck_1, bo_s, lt_s9, j0, k0, h1 0 (by omega)]
    rw [Nat.zero_add] at q1
    have q1' : b_ErrataRow_apart_122 N (b_ErrataRow_apart_97 N f) N (A 0) (nI p) (nI q) (nI n) (A 30) (nI (a + 1)) (nI (eD S p q a 0)) 1 (sai (A 71) (upd (ai κ (A 71)) 0 (nI (a + 1))) κ) = _ := q1
    rw [q1']
    exact r1)
  have first := upL (n + 1) (fun f i => ∀ (κ : Cz), Sh κ A → St κ A 29 S → (∀ j, j < i → ai κ (A 71) j = nI j) → ∃ κ1, b_ErrataRow_apart_73 N f (A 0) (nI p) (nI q) (nI n) (A 30) (nI i) κ = some (nI (eD S p q n n), κ1) ∧ Chg A (fun r => r = 71) κ κ1) (by
    intro f κ hs hS h1
    rw [b_ErrataRow_apart_73, if_pos (nI_lt (by omega) (by omega))]
    have := rows N 0 (by omega) (by omega) κ hs hS (fun j hj => h1 j (by omega))
    rw [Nat.zero_add] at this
    exact this) (by
    intro f i hi ih κ hs hS h1
    have g : Chg A (fun r => r = 71) κ (sai (A 71) (upd (ai κ (A 71)) i (nI i)) κ) := Chg.sai (L := fun r => r = 71) hA κ (r := 71) rfl _
    obtain ⟨κ1, q1, q2⟩ := ih (sai (A 71) (upd (ai κ (A 71)) i (nI i)) κ) (hs.chg g) (hS.chg g (fun r z1 z2 z3 => by omega)) (by
      intro j hj
      rw [ai_ai, if_pos rfl, upd_at]
      by_cases z : j = i
      · rw [if_pos z, z]
      · rw [if_neg z]; exact h1 j (by omega))
    refine ⟨κ1, ?_, g.trans q2⟩
    rw [b_ErrataRow_apart_73, if_neg (nI_nlt (by omega) (by omega))]
    simp -implicitDefEqProofs only [hs.top, ck_1, bo_s, lt_s9, inbT (show i < 61 by omega) (by decide), clN (show i < 2147483648 by omega), nI_1]
    exact q1) N 0 (by omega) (by omega) κ hs hS (fun j hj => absurd hj (by omega))
  rw [nI_0] at first
  exact first
theorem m_apart (N : Nat) (hN : 20000 ≤ N) {μ : Mz} {p q n : Nat} (hn : 1 ≤ n) (hp : p + n ≤ 10) (hq : q + n ≤ 10) : ∃ F, b12_apart_57 N N (nI p) (nI q) (nI n) 0 μ = some (nI (eD (ga 7 μ) p q n n), sa 12 F μ) := by
  have row : ∀ (k57 : Int32 → Int32 → Int32 → Int32 → Mz → Option (Int32 × Mz)) (a : Nat), a ≤ n → ∀ (f b : Nat), b ≤ n + 1 → n + 1 < f + b → ∀ (G : Nat → Int32), (∀ a' b', a' < a → b' ≤ n → G (11 * a' + b') = nI (eD (ga 7 μ) p q a' b')) → (∀ b', b' < b → G (11 * a + b') = nI (eD (ga 7 μ) p q a b')) → ∃ G', b12_apart_66 N k57 f (nI p) (nI q) (nI n) (nI a) (nI b) (sa 12 G μ) = k57 (nI p) (nI q) (nI n) (nI (a + 1)) (sa 12 G' μ) ∧ ∀ a' b', a' < a + 1 → b' ≤ n → G' (11 * a' + b') = nI (eD (ga 7 μ) p q a' b') := by
    intro k57 a ha
    refine upL (n + 1) (fun f b => ∀ (G : Nat → Int32), (∀ a' b', a' < a → b' ≤ n → G (11 * a' + b') = nI (eD (ga 7 μ) p q a' b')) → (∀ b', b' < b → G (11 * a + b') = nI (eD (ga 7 μ) p q a b')) → ∃ G', b12_apart_66 N k57 f (nI p) (nI q) (nI n) (nI a) (nI b) (sa 12 G μ) = k57 (nI p) (nI q) (nI n) (nI (a + 1)) (sa 12 G' μ) ∧ ∀ a' b', a' < a + 1 → b' ≤ n → G' (11 * a' + b') = nI (eD (ga 7 μ) p q a' b')) ?_ ?_
    · intro f G h1 h2
      refine ⟨G, ?_, fun a' b' z1 z2 => ?_⟩
      · rw [b12_apart_66, if_pos (nI_lt (by omega) (by omega)), lt_s9, nI_1]
      · by_cases z : a' = a
        · rw [z]; exact h2 b' (by omega)
        · exact h1 a' b' (by omega) z2
    · intro f b hb ih G h1 h2
      have eab : (11 : Int32) * nI a + nI b = nI (11 * a + b) := by rw [show (11 : Int32) = nI 11 from rfl, pk_mul, nI_add]
      -- the cell is laid down
      have lay : ∃ G', b12_apart_194 N k57 (b12_apart_66 N k57 f) (nI p) (nI q) (nI n) (nI a) (nI b) (nI (eD (ga 7 μ) p q a b)) (sa 12 G μ) = k57 (nI p) (nI q) (nI n) (nI (a + 1)) (sa 12 G' μ) ∧ ∀ a' b', a' < a + 1 → b' ≤ n → G' (11 * a' + b') = nI (eD (ga 7 μ) p q a' b') := by
        unfold b12_apart_194
        rw [eab, inbT (show 11 * a + b < 121 by omega) (by decide), ck_1, clN (show 11 * a + b < 2147483648 by omega), lt_s9, lt_s9, ga_sa, sa_sa, nI_1]
        refine ih _ (fun a' b' z1 z2 => ?_) (fun b' z1 => ?_)
        · rw [upd_at, if_neg (by omega)]; exact h1 a' b' z1 z2
        · rw [upd_at]
          by_cases z : b' = b
          · rw [if_pos (by omega), z]
          · rw [if_neg (by omega)]; exact h2 b' (by omega)
      rw [b12_apart_66, if_neg (nI_nlt (by omega) (by omega))]
      unfold b12_apart_84
      by_cases ha0 : a = 0
      · subst ha0
        rw [if_pos (show nI 0 = 0 by decide), if_pos (show nI 0 ≤ 0 by decide)]
        exact lay
      · rw [if_neg (nI_ne0 (by omega) (by omega)), if_neg (nI_nle (by omega) (by omega))]
        by_cases hb0 : b = 0
        · subst hb0
          rw [if_pos (show nI 0 ≤ 0 by decide)]
          rw [eD_0] at lay
          exact lay
        · rw [if_neg (nI_nle (by omega) (by omega))]
          obtain ⟨a', rfl⟩ : ∃ g, a = g + 1 := ⟨a - 1, by omega⟩
          obtain ⟨b', rfl⟩ : ∃ g, b = g + 1 := ⟨b - 1, by omega⟩
          have s1 : (11 : Int32) * (nI (a' + 1) - 1) + nI (b' + 1) - 1 = nI (11 * a' + b') := by
            rw [sub1, show (11 : Int32) = nI 11 from rfl, pk_mul, nI_add, show 11 * a' + (b' + 1) = 11 * a' + b' + 1 by omega, sub1]
          have s2 : (13 : Int32) + nI p + nI (a' + 1) - 1 = nI (13 + p + a') := by
            rw [show (13 : Int32) = nI 13 from rfl, nI_add, nI_add, show 13 + p + (a' + 1) = 13 + p + a' + 1 by omega, sub1]
          have s3 : (13 : Int32) + nI q + nI (b' + 1) - 1 = nI (13 + q + b') := by
            rw [show (13 : Int32) = nI 13 from rfl, nI_add, nI_add, show 13 + q + (b' + 1) = 13 + q + b' + 1 by omega, sub1]
          have s4 : (11 : Int32) * (nI (a' + 1) - 1) + nI (b' + 1) = nI (11 * a' + (b' + 1)) := by
            rw [sub1, show (11 : Int32) = nI 11 from rfl, pk_mul, nI_add]
          have s5 : nI (11 * (a' + 1) + (b' + 1)) - 1 = nI (11 * (a' + 1) + b') := sub1 _
          have v1 := h1 a' b' (by omega) (by omega)
          have v2 := h1 a' (b' + 1) (by omega) (by omega)
          have v3 := h2 b' (by omega)
          have l1 := eD_le (ga 7 μ) p q a' b'
          have l2 := eD_le (ga 7 μ) p q a' (b' + 1)
          have l3 := eD_le (ga 7 μ) p q (a' + 1) b'
          have es := eD_s (ga 7 μ) p q a' b'
          have fin : ∀ d : Nat, d = (if ga 7 μ (13 + p + a') = ga 7 μ (13 + q + b') then 0 else 1) → b12_apart_149 N k57 (b12_apart_66 N k57 f) (nI p) (nI q) (nI n) (nI (a' + 1)) (nI (b' + 1)) (nI d) (nI (eD (ga 7 μ) p q a' b')) (sa 12 G μ) = b12_apart_194 N k57 (b12_apart_66 N k57 f) (nI p) (nI q) (nI n) (nI (a' + 1)) (nI (b' + 1)) (nI (eD (ga 7 μ) p q (a' + 1) (b' + 1))) (sa 12 G μ) := by
            intro d hd
            have hd1 : d ≤ 1 := by rw [hd]; split <;> omega
            rw [← hd] at es
            unfold b12_apart_149
            rw [s4, eab, s5]
            simp -implicitDefEqProofs only [lt_s9, ck_1, inbT (show 11 * a' + (b' + 1) < 121 by omega) (by decide), clN (show 11 * a' + (b' + 1) < 2147483648 by omega), inbT (show 11 * (a' + 1) + b' < 121 by omega) (by decide), clN (show 11 * (a' + 1) + b' < 2147483648 by omega), ga_sa, v2, v3, m_lesser N (show eD (ga 7 μ) p q a' (b' + 1) < 2 ^ 31 by omega) (show eD (ga 7 μ) p q (a' + 1) b' < 2 ^ 31 by omega), bo_s, nI_add]
            rw [show (1 : Int32) + nI (min (eD (ga 7 μ) p q a' (b' + 1)) (eD (ga 7 μ) p q (a' + 1) b')) = nI (1 + min (eD (ga 7 μ) p q a' (b' + 1)) (eD (ga 7 μ) p q (a' + 1) b')) from nI_add 1 _, m_lesser N (by omega) (by omega), bo_s, es, Nat.add_comm 1]
          rw [s1, s2, s3]
          simp -implicitDefEqProofs only [lt_s9, ck_1, inbT (show 11 * a' + b' < 121 by omega) (by decide), clN (show 11 * a' + b' < 2147483648 by omega), inbT (show 13 + p + a' < 129 by omega) (by decide), clN (show 13 + p + a' < 2147483648 by omega), inbT (show 13 + q + b' < 129 by omega) (by decide), clN (show 13 + q + b' < 2147483648 by omega), ga_sa, ga_sa_ne (show 7 ≠ 12 by decide), v1]
          by_cases z : ga 7 μ (13 + p + a') = ga 7 μ (13 + q + b')
          · rw [if_pos z, show (0 : Int32) = nI 0 from rfl, fin 0 (by rw [if_pos z])]
            exact lay
          · rw [if_neg z, show (1 : Int32) = nI 1 from rfl, fin 1 (by rw [if_neg z])]
            exact lay
  have rows := upL (n + 1) (fun f a => ∀ (G : Nat → Int32), (∀ a' b', a' < a → b' ≤ n → G (11 * a' + b') = nI (eD (ga 7 μ) p q a' b')) → ∃ F, b12_apart_57 N f (nI p) (nI q) (nI n) (nI a) (sa 12 G μ) = some (nI (eD (ga 7 μ) p q n n), sa 12 F μ)) (by
    intro f G h1
    refine ⟨G, ?_⟩
    have e12 : (12 : Int32) * nI n = nI (11 * n + n) := by rw [show (12 : Int32) = nI 12 from rfl, pk_mul, show 12 * n = 11 * n + n by omega]
    rw [b12_apart_57, if_pos (nI_lt (by omega) (by omega)), lt_s9, e12, inbT (show 11 * n + n < 121 by omega) (by decide), ck_1, clN (show 11 * n + n < 2147483648 by omega), ga_sa, h1 n n (by omega) (Nat.le_refl n)]) (by
    intro f a ha ih G h1
    obtain ⟨G', g1, g2⟩ := row (b12_apart_57 N f) a (by omega) N 0 (by omega) (by omega) G h1 (fun b' hb' => absurd hb' (by omega))
    rw [nI_0] at g1
    rw [b12_apart_57, if_neg (nI_nlt (by omega) (by omega)), g1]
    exact ih G' g2) N 0 (by omega) (by omega) (ga 12 μ) (fun a' b' z => absurd z (by omega))
  rw [nI_0, sa_ga] at rows
  exact rows
theorem sm_apart (N : Nat) (hN : 20000 ≤ N) (x0 : Nat) : Sm_apart N x0 (Rel x0) := by
  rintro κ μ a1 a2 a3 ⟨A, rfl, hR⟩
  have hs := hR.sh
  obtain ⟨c, h, e, q, nn, hO⟩ := hR.ok
  have hc10 : c ≤ 10 := hO.1
  have h3 : ga 7 μ 3 = nI c := hO.2.1
  have h31 : ga 7 μ (3 : Int32).toNatClampNeg = nI c := h3
  have hl : fi κ (A 21) 2 = nI c := hR.wd.1.2.2.1.trans h3
  unfold p_ErrataRow_apart p12_apart
  simp -implicitDefEqProofs only [hs.top, hs.w20, ck_1, bo_s, bd_s, c_isLetter N hs, c_within, m_isInBook, m_in N a3 1 10 1 10 (by decide) (by decide), hl, h3, h31, ite10, lt_s9]
  by_cases hi : 0 ≤ a1 ∧ a1 < nI c
  · by_cases hj : 0 ≤ a2 ∧ a2 < nI c
    · by_cases hn : 1 ≤ a3 ∧ a3 ≤ 10
      · rw [if_pos hi, if_pos hi, if_pos hj, if_pos hj, if_pos hn, if_pos hn]
        obtain ⟨p, hp, rfl⟩ := lt_nat (by omega) hi
        obtain ⟨q2, hq, rfl⟩ := lt_nat (by omega) hj
        obtain ⟨n, n1, n2, rfl⟩ := in_nat1 10 (by omega) rfl hn
        rw [nI_add, nI_add]
        by_cases z1 : c < p + n
        · rw [if_pos (nI_lt z1 (by omega)), if_pos (nI_lt z1 (by omega))]
          exact ⟨-1, κ, μ, rfl, rfl, A, rfl, hR⟩
        · rw [if_neg (nI_nlt (by omega) (by omega)), if_neg (nI_nlt (by omega) (by omega))]
          by_cases z2 : q2 + n ≤ c
          · rw [if_pos (nI_le z2 (by omega)), if_pos (nI_le z2 (by omega))]
            obtain ⟨κ1, e1, g1⟩ := c_apart N hN (p := p) (q := q2) (n := n) hs hR.wd.2.2.1 n1 (by omega) (by omega)
            obtain ⟨F, e2⟩ := m_apart N hN (μ := μ) (p := p) (q := q2) (n := n) n1 (by omega) (by omega)
            rw [e1, e2]
            exact ⟨_, κ1, _, rfl, rfl, A, rfl, q_close hR (g1.ch.mono (fun r z => by unfold Dc; omega)) (Mq.row (by unfold Rq; omega) _) (ga_sa_ne (by decide) _ _)⟩
          · rw [if_neg (nI_ge (by omega) (by omega)), if_neg (nI_ge (by omega) (by omega))]
            exact ⟨-1, κ, μ, rfl, rfl, A, rfl, hR⟩
      · rw [if_pos hi, if_pos hi, if_pos hj, if_pos hj, if_neg hn, if_neg hn]
        exact ⟨-1, κ, μ, rfl, rfl, A, rfl, hR⟩
    · rw [if_pos hi, if_pos hi, if_neg hj, if_neg hj]
      exact ⟨-1, κ, μ, rfl, rfl, A, rfl, hR⟩
  · rw [if_neg hi, if_neg hi]
    exact ⟨-1, κ, μ, rfl, rfl, A, rfl, hR⟩
