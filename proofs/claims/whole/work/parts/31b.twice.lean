/-! twice -/
def aL (S : Nat → Int32) : Nat → Nat → Nat → Nat
  | _, _, 0 => 0
  | i, j, d + 1 => if S (13 + i) = S (13 + j) then aL S (i + 1) (j + 1) d + 1 else 0
theorem aL_le (S : Nat → Int32) : ∀ (d i j : Nat), aL S i j d ≤ d
  | 0, _, _ => Nat.le_refl 0
  | d + 1, i, j => by
    rw [aL]
    have := aL_le S d (i + 1) (j + 1)
    split <;> omega
theorem aL_iff (S : Nat → Int32) : ∀ (d i j len : Nat), len ≤ d → (len ≤ aL S i j d ↔ ∀ n, n < len → S (13 + i + n) = S (13 + j + n))
  | 0, i, j, len, h => ⟨fun _ n hn => absurd hn (by omega), fun _ => by omega⟩
  | d + 1, i, j, 0, _ => ⟨fun _ n hn => absurd hn (Nat.not_lt_zero n), fun _ => Nat.zero_le _⟩
  | d + 1, i, j, len + 1, h => by
    have ih := aL_iff S d (i + 1) (j + 1) len (by omega)
    rw [aL]
    by_cases z : S (13 + i) = S (13 + j)
    · rw [if_pos z]
      constructor
      · intro h1 n hn
        by_cases y : n = 0
        · subst y; exact z
        · have := ih.mp (by omega) (n - 1) (by omega)
          rw [show 13 + (i + 1) + (n - 1) = 13 + i + n by omega, show 13 + (j + 1) + (n - 1) = 13 + j + n by omega] at this
          exact this
      · intro h1
        have := ih.mpr (fun n hn => by
          have := h1 (n + 1) (by omega)
          rw [show 13 + i + (n + 1) = 13 + (i + 1) + n by omega, show 13 + j + (n + 1) = 13 + (j + 1) + n by omega] at this
          exact this)
        omega
    · rw [if_neg z]
      exact ⟨fun y => absurd y (by omega), fun y => absurd (y 0 (by omega)) z⟩
theorem m_alikeFrom (N : Nat) (hN : 20000 ≤ N) {μ : Mz} {c i j : Nat} (h3 : ga 7 μ 3 = nI c) (hc : c ≤ 10) (hij : i < j) (hj : j < c) : p12_alikeFrom N (nI i) (nI j) μ = some (nI (aL (ga 7 μ) i j (c - j)), μ) := by
  have L := upL (c - j) (fun f n => b12_alikeFrom_2 N f (nI i) (nI j) (nI n) μ = some (nI (n + aL (ga 7 μ) (i + n) (j + n) (c - j - n)), μ)) (by
    intro f
    rw [b12_alikeFrom_2, nI_add, show ga 7 μ (3 : Int32).toNatClampNeg = nI c from h3, if_pos (nI_le (by omega) (by omega)), Nat.sub_self]
    rfl) (by
    intro f n hn ih
    have e1 : (13 : Int32) + nI i + nI n = nI (13 + i + n) := by rw [show (13 : Int32) = nI 13 from rfl, nI_add, nI_add]
    have e2 : (13 : Int32) + nI j + nI n = nI (13 + j + n) := by rw [show (13 : Int32) = nI 13 from rfl, nI_add, nI_add]
    rw [b12_alikeFrom_2, nI_add, show ga 7 μ (3 : Int32).toNatClampNeg = nI c from h3, if_neg (nI_ge (by omega) (by omega)), e1, e2]
    simp -implicitDefEqProofs only [lt_s9, ck_1, inbT (show 13 + i + n < 129 by omega) (by decide), inbT (show 13 + j + n < 129 by omega) (by decide), clN (show 13 + i + n < 2147483648 by omega), clN (show 13 + j + n < 2147483648 by omega), nI_1]
    rw [show c - j - n = (c - j - (n + 1)) + 1 by omega, aL, show 13 + (i + n) = 13 + i + n by omega, show 13 + (j + n) = 13 + j + n by omega]
    by_cases z : ga 7 μ (13 + i + n) = ga 7 μ (13 + j + n)
    · rw [if_pos z, if_pos z, ih]
      congr 3
      rw [show i + n + 1 = i + (n + 1) by omega, show j + n + 1 = j + (n + 1) by omega]
      omega
    · rw [if_neg z, if_neg z, Nat.add_zero]) N 0 (by omega) (by omega)
  rw [nI_0, Nat.zero_add] at L
  exact L
theorem c_samePart (N : Nat) (hN : 20000 ≤ N) {A : Nat → Nat} {κ : Cz} {S : Nat → Int32} {c i j len : Nat} (hs : Sh κ A) (hS : St κ A 29 S) (hc : c ≤ 10) (hij : i < j) (hj : j + len ≤ c) : ∃ b : Bool, (b = true ↔ len ≤ aL S i j (c - j)) ∧ p_ErrataRow_isSamePart N (A 0) (nI i) (nI j) (nI len) κ = some (if b = true then 1 else 0, κ) := by
  have L := upL len (fun f n => ∃ b : Bool, (b = true ↔ ∀ m, n ≤ m → m < len → S (13 + i + m) = S (13 + j + m)) ∧ b_ErrataRow_isSamePart_3 N f (A 0) (nI i) (nI j) (nI len) (nI n) κ = some (if b = true then 1 else 0, κ)) (by
    intro f
    refine ⟨true, ⟨fun _ m h1 h2 => absurd h1 (by omega), fun _ => rfl⟩, ?_⟩
    rw [b_ErrataRow_isSamePart_3, if_pos (nI_le (Nat.le_refl len) (by omega)), if_pos rfl]) (by
    intro f n hn ih
    have a1 : ai κ (A 30) (i + n) = S (13 + i + n) := by
      rw [hS.2.2.2.1 (i + n) (by omega), show 13 + (i + n) = 13 + i + n by omega]
    have a2 : ai κ (A 30) (j + n) = S (13 + j + n) := by
      rw [hS.2.2.2.1 (j + n) (by omega), show 13 + (j + n) = 13 + j + n by omega]
    rw [b_ErrataRow_isSamePart_3, if_neg (nI_ge hn (by omega))]
    simp -implicitDefEqProofs only [hs.top, hs.w20, ck_1, bo_s, lt_s9, nI_add, inbT (show i + n < 10 by omega) (by decide), inbT (show j + n < 10 by omega) (by decide), clN (show i + n < 2147483648 by omega), clN (show j + n < 2147483648 by omega), a1, a2, nI_1]
    obtain ⟨b, b1, b2⟩ := ih
    by_cases z : S (13 + i + n) = S (13 + j + n)
    · rw [if_pos z]
      refine ⟨b, b1.trans ⟨fun e m h1 h2 => ?_, fun e m h1 h2 => e m (by omega) h2⟩, b2⟩
      by_cases y : m = n
      · rw [y]; exact z
      · exact e m (by omega) h2
    · rw [if_neg z]
      exact ⟨false, ⟨fun y => (nomatch y), fun e => absurd (e n (Nat.le_refl n) hn) z⟩, rfl⟩) N 0 (by omega) (by omega)
  rw [nI_0] at L
  obtain ⟨b, b1, b2⟩ := L
  exact ⟨b, b1.trans (Iff.trans ⟨fun e m hm => e m (by omega) hm, fun e m _ hm => e m hm⟩ (aL_iff S (c - j) i j len (by omega)).symm), b2⟩
/-- the best of the twos ahead of (x, y) -/
def BI (S : Nat → Int32) (c x y m : Nat) (f s : Int32) : Prop := (m = 0 ∧ f = -2 ∧ s = -2 ∨ ∃ i j, i < j ∧ j < c ∧ m = aL S i j (c - j) ∧ 0 < m ∧ f = nI i ∧ s = nI j ∧ ∀ i' j', i' < j' → j' < c → (i' < i ∨ i' = i ∧ j' < j) → aL S i' j' (c - j') < m) ∧ ∀ i' j', i' < j' → j' < c → (i' < x ∨ i' = x ∧ j' < y) → aL S i' j' (c - j') ≤ m
theorem m_twice (N : Nat) (hN : 20000 ≤ N) {μ : Mz} {c w : Nat} (h3 : ga 7 μ 3 = nI c) (hc : c ≤ 10) (hw : w ≤ 2) : ∃ m f s, m ≤ 10 ∧ BI (ga 7 μ) c c (c + 1) m f s ∧ b12_twice_33 N N (nI w) 0 (-2) (-2) 0 μ = some (if w = 0 then nI m else if w = 1 then f else s, μ) := by
  have inner : ∀ (k33 : Int32 → Int32 → Int32 → Int32 → Int32 → Mz → Option (Int32 × Mz)) (x : Nat), x < c → ∀ (fu y : Nat), y ≤ c → c < fu + y → x < y → ∀ m f s, m ≤ 10 → BI (ga 7 μ) c x y m f s → ∃ m' f' s', m' ≤ 10 ∧ BI (ga 7 μ) c (x + 1) (x + 2) m' f' s' ∧ b12_twice_50 N k33 fu (nI w) (nI m) f s (nI x) (nI y) μ = k33 (nI w) (nI m') f' s' (nI (x + 1)) μ := by
    intro k33 x hx
    refine upL c (fun fu y => x < y → ∀ m f s, m ≤ 10 → BI (ga 7 μ) c x y m f s → ∃ m' f' s', m' ≤ 10 ∧ BI (ga 7 μ) c (x + 1) (x + 2) m' f' s' ∧ b12_twice_50 N k33 fu (nI w) (nI m) f s (nI x) (nI y) μ = k33 (nI w) (nI m') f' s' (nI (x + 1)) μ) ?_ ?_
    · intro fu hxy m f s hm hB
      refine ⟨m, f, s, hm, ⟨hB.1, fun i' j' h1 h2 h4 => hB.2 i' j' h1 h2 ?_⟩, ?_⟩
      · omega
      · rw [b12_twice_50, show ga 7 μ (3 : Int32).toNatClampNeg = nI c from h3, if_pos (nI_le (Nat.le_refl c) (by omega)), lt_s9, nI_1]
    · intro fu y hy ih hxy m f s hm hB
      have ea := m_alikeFrom N hN h3 hc hxy hy
      have hle := aL_le (ga 7 μ) (c - y) x y
      rw [b12_twice_50, show ga 7 μ (3 : Int32).toNatClampNeg = nI c from h3, if_neg (nI_ge hy (by omega)), ea, bd_s, ea, bd_s, lt_s9, lt_s9, nI_1]
      by_cases z : m < aL (ga 7 μ) x y (c - y)
      · rw [if_pos (nI_lt z (by omega))]
        refine ih (by omega) _ _ _ (by omega) ⟨Or.inr ⟨x, y, hxy, hy, rfl, by omega, rfl, rfl, fun i' j' h1 h2 h4 => Nat.lt_of_le_of_lt (hB.2 i' j' h1 h2 h4) z⟩, fun i' j' h1 h2 h4 => ?_⟩
        by_cases q : i' = x ∧ j' = y
        · rw [q.1, q.2]; exact Nat.le_refl _
        · exact Nat.le_of_lt (Nat.lt_of_le_of_lt (hB.2 i' j' h1 h2 (by omega)) z)
      · rw [if_neg (nI_nlt (by omega) (by omega))]
        refine ih (by omega) m f s hm ⟨hB.1, fun i' j' h1 h2 h4 => ?_⟩
        by_cases q : i' = x ∧ j' = y
        · rw [q.1, q.2]; omega
        · exact hB.2 i' j' h1 h2 (by omega)
  have outer := upL c (fun fu x => ∀ m f s, m ≤ 10 → BI (ga 7 μ) c x (x + 1) m f s → ∃ m' f' s', m' ≤ 10 ∧ BI (ga 7 μ) c c (c + 1) m' f' s' ∧ b12_twice_33 N fu (nI w) (nI m) f s (nI x) μ = some (if w = 0 then nI m' else if w = 1 then f' else s', μ)) (by
    intro fu m f s hm hB
    refine ⟨m, f, s, hm, hB, ?_⟩
    rw [b12_twice_33, show ga 7 μ (3 : Int32).toNatClampNeg = nI c from h3, if_pos (nI_le (Nat.le_refl c) (by omega))]
    match w, hw with
    | 0, _ => rfl
    | 1, _ => rfl
    | 2, _ => rfl) (by
    intro fu x hx ih m f s hm hB
    obtain ⟨m', f', s', q1, q2, q3⟩ := inner (b12_twice_33 N fu) x hx N (x + 1) (by omega) (by omega) (by omega) m f s hm hB
    rw [b12_twice_33, show ga 7 μ (3 : Int32).toNatClampNeg = nI c from h3, if_neg (nI_ge hx (by omega)), lt_s9, nI_1, q3]
    exact ih m' f' s' q1 q2) N 0 (by omega) (by omega) 0 (-2) (-2) (by omega) ⟨Or.inl ⟨rfl, rfl, rfl⟩, fun i' j' h1 h2 h4 => by omega⟩
  rw [nI_0] at outer
  exact outer
theorem c_findTwice (N : Nat) (hN : 20000 ≤ N) {A : Nat → Nat} {κ : Cz} {S : Nat → Int32} {c m : Nat} {f s : Int32} (hs : Sh κ A) (hS : St κ A 29 S) (hl : fi κ (A 21) 2 = nI c) (hc : c ≤ 10) (hB : BI S c c (c + 1) m f s) : ∃ κ1, p_ErrataRow_findTwice N (A 0) κ = some κ1 ∧ Chg A (fun r => r = 70) κ κ1 ∧ Fnd κ1 A (nI m) f s := by
  have all : ∀ i' j', i' < j' → j' < c → aL S i' j' (c - j') ≤ m := fun i' j' h1 h2 => hB.2 i' j' h1 h2 (by omega)
  obtain ⟨κ1, e1, g1, F1⟩ := c_found N hs (nI m) f s
  refine ⟨κ1, ?_, g1, F1⟩
  have skip34 : ∀ (k15 : Nat → Int32 → Int32 → Cz → Option Cz) (k22 : Nat → Int32 → Int32 → Int32 → Cz → Option Cz) (len x : Nat), 1 ≤ len → len ≤ c → x < c → ∀ (e : Nat), x < e → e ≤ c + 1 - len → (∀ y, x < y → y < e → aL S x y (c - y) < len) → (∀ (fu y : Nat), y ≤ e → e < fu + y → x < y → b_ErrataRow_findTwice_34 N k15 k22 fu (A 0) (nI c) (nI len) (nI x) (nI y) κ = b_ErrataRow_findTwice_34 N k15 k22 (fu - (e - y)) (A 0) (nI c) (nI len) (nI x) (nI e) κ) := by
    intro k15 k22 len x h1 h2 hx e he1 he2 hno
    intro fu
    induction fu with
    | zero => intro y a1 a2 a3; exact absurd a2 (by omega)
    | succ fu ih =>
      intro y a1 a2 a3
      by_cases z : y = e
      · subst z; rw [Nat.sub_self, Nat.sub_zero]
      · obtain ⟨b, b1, b2⟩ := c_samePart N hN (len := len) hs hS hc a3 (show y + len ≤ c by omega)
        have hb : b = false := by
          have := hno y a3 (by omega)
          cases hbb : b
          · rfl
          · have := b1.mp hbb; omega
        rw [b_ErrataRow_findTwice_34, nI_add, if_neg (nI_nlt (show y + len ≤ c by omega) (by omega))]
        simp -implicitDefEqProofs only [hs.top, ck_1, b2, bd_s, ite10, lt_s9, nI_1, hb, Bool.false_eq_true, if_false]
        rw [ih (y + 1) (by omega) (by omega) (by omega), show fu - (e - (y + 1)) = fu + 1 - (e - y) by omega, if_pos trivial]
  -- all twos of x are shorter
  have pass34 : ∀ (k15 : Nat → Int32 → Int32 → Cz → Option Cz) (k22 : Nat → Int32 → Int32 → Int32 → Cz → Option Cz) (len x : Nat), 1 ≤ len → x + len < c → (∀ y, x < y → y < c → aL S x y (c - y) < len) → b_ErrataRow_findTwice_34 N k15 k22 N (A 0) (nI c) (nI len) (nI x) (nI (x + 1)) κ = k22 (A 0) (nI c) (nI len) (nI (x + 1)) κ := by
    intro k15 k22 len x h1 h2 hno
    rw [skip34 k15 k22 len x h1 (by omega) (by omega) (c + 1 - len) (by omega) (Nat.le_refl _) (fun y y1 y2 => hno y y1 (by omega)) N (x + 1) (by omega) (by omega) (by omega)]
    obtain ⟨g, hg⟩ : ∃ g, N - (c + 1 - len - (x + 1)) = g + 1 := ⟨N - (c + 1 - len - (x + 1)) - 1, by omega⟩
    rw [hg, b_ErrataRow_findTwice_34, nI_add, if_pos (nI_lt (show c < c + 1 - len + len by omega) (by omega)), lt_s9, nI_1]
  have D : ∀ (d : Nat) (fu : Nat), d + m < fu → d + m + 1 ≤ c ∨ d + m = 0 → b_ErrataRow_findTwice_15 N fu (A 0) (nI c) (nI (d + m)) κ = some κ1 := by
    intro d
    induction d with
    | zero =>
      intro fu hfu hle
      obtain ⟨fu, rfl⟩ : ∃ g, fu = g + 1 := ⟨fu - 1, by omega⟩
      rw [Nat.zero_add] at hle ⊢
      rcases hB.1 with ⟨z1, z2, z3⟩ | ⟨i, j, i1, i2, i3, i4, i5, i6, i7⟩
      · subst z1 z2 z3
        rw [b_ErrataRow_findTwice_15, if_pos (by decide)]
        simp -implicitDefEqProofs only [hs.top, ck_1, bo_id]
        exact e1
      · have hmj : j + m ≤ c := by have := aL_le S (c - j) i j; omega
        rw [b_ErrataRow_findTwice_15, if_neg (show ¬ nI m < 1 from nI_nlt (b := 1) (by omega) (by omega))]
        have U := upL i (fun fu2 x => b_ErrataRow_findTwice_22 N (b_ErrataRow_findTwice_15 N fu) fu2 (A 0) (nI c) (nI m) (nI x) κ = some κ1) (by
          intro fu2
          rw [b_ErrataRow_findTwice_22, nI_add, if_neg (nI_ge (show i + m < c by omega) (by omega)), lt_s9, nI_1]
          rw [skip34 (b_ErrataRow_findTwice_15 N fu) (b_ErrataRow_findTwice_22 N (b_ErrataRow_findTwice_15 N fu) fu2) m i (by omega) (by omega) (by omega) j i1 (by omega) (fun y y1 y2 => i7 i y y1 (by omega) (Or.inr ⟨rfl, y2⟩)) N (i + 1) (by omega) (by omega) (by omega)]
          obtain ⟨g, hg⟩ : ∃ g, N - (j - (i + 1)) = g + 1 := ⟨N - (j - (i + 1)) - 1, by omega⟩
          obtain ⟨b, b1, b2⟩ := c_samePart N hN (len := m) hs hS hc i1 hmj
          have hb : b = true := b1.mpr (by omega)
          rw [hg, b_ErrataRow_findTwice_34, nI_add, if_neg (nI_nlt hmj (by omega))]
          simp -implicitDefEqProofs only [hs.top, ck_1, b2, bd_s, ite10, hb, if_true, bo_id]
          rw [← i5, ← i6]
          exact e1) (by
          intro fu2 x hx ih
          rw [b_ErrataRow_findTwice_22, nI_add, if_neg (nI_ge (show x + m < c by omega) (by omega)), lt_s9, nI_1]
          rw [pass34 _ _ m x (by omega) (by omega) (fun y y1 y2 => i7 x y y1 y2 (Or.inl hx))]
          exact ih) N 0 (by omega) (by omega)
        rw [nI_0] at U
        exact U
    | succ d ih =>
      intro fu hfu hle
      obtain ⟨fu, rfl⟩ : ∃ g, fu = g + 1 := ⟨fu - 1, by omega⟩
      rw [b_ErrataRow_findTwice_15, if_neg (show ¬ nI (d + 1 + m) < 1 from nI_nlt (b := 1) (by omega) (by omega))]
      have hle' : d + 1 + m + 1 ≤ c := by omega
      have U := upL (c - (d + 1 + m)) (fun fu2 x => b_ErrataRow_findTwice_22 N (b_ErrataRow_findTwice_15 N fu) fu2 (A 0) (nI c) (nI (d + 1 + m)) (nI x) κ = some κ1) (by
        intro fu2
        rw [b_ErrataRow_findTwice_22, nI_add, if_pos (nI_le (by omega) (by omega)), lt_s9, show d + 1 + m = d + m + 1 by omega, pk_m1]
        exact ih fu (by omega) (by omega)) (by
        intro fu2 x hx ih2
        rw [b_ErrataRow_findTwice_22, nI_add, if_neg (nI_ge (show x + (d + 1 + m) < c by omega) (by omega)), lt_s9, nI_1]
        rw [pass34 _ _ (d + 1 + m) x (by omega) (by omega) (fun y y1 y2 => by have := all x y y1 y2; omega)]
        exact ih2) N 0 (by omega) (by omega)
      rw [nI_0] at U
      exact U
  unfold p_ErrataRow_findTwice
  simp -implicitDefEqProofs only [hs.top, hs.w20, ck_1, bo_s, hl, lt_s9]
  by_cases hc0 : c = 0
  · subst hc0
    have hm0 : m = 0 ∧ f = -2 ∧ s = -2 := by
      rcases hB.1 with z | ⟨i, j, i1, i2, -⟩
      · exact z
      · omega
    obtain ⟨g, hg⟩ : ∃ g, N = g + 1 := ⟨N - 1, by omega⟩
    have : ∀ G, b_ErrataRow_findTwice_15 N (G + 1) (A 0) (nI 0) (nI 0 - 1) κ = some κ1 := by
      intro G
      rw [b_ErrataRow_findTwice_15, if_pos (by decide)]
      simp -implicitDefEqProofs only [hs.top, ck_1, bo_id]
      rw [hm0.1, hm0.2.1, hm0.2.2] at e1
      exact e1
    have h := this g
    rw [← hg] at h
    exact h
  · obtain ⟨c', rfl⟩ : ∃ g, c = g + 1 := ⟨c - 1, by omega⟩
    have hm : m ≤ c' := by
      rcases hB.1 with z | ⟨i, j, i1, i2, i3, -⟩
      · omega
      · have := aL_le S (c' + 1 - j) i j; omega
    rw [sub1]
    have := D (c' - m) N (by omega) (by omega)
    rw [show c' - m + m = c' by omega] at this
    exact this
theorem sm_twice (N : Nat) (hN : 20000 ≤ N) (x0 : Nat) : Sm_twice N x0 (Rel x0) := by
  rintro κ μ a1 ⟨A, rfl, hR⟩
  have hs := hR.sh
  obtain ⟨c, h, e, q, nn, hO⟩ := hR.ok
  have hc10 : c ≤ 10 := hO.1
  have h3 : ga 7 μ 3 = nI c := hO.2.1
  have hl : fi κ (A 21) 2 = nI c := hR.wd.1.2.2.1.trans h3
  have h0 : fi κ (A 21) 0 = ga 7 μ 0 := hR.wd.1.1
  unfold p_ErrataRow_twice p12_twice
  simp -implicitDefEqProofs only [hs.top, hs.w20, ck_1, bo_s, bd_s, c_within, m_in N a1 0 2 0 2 (by decide) (by decide), m_isBook, h0, ite10]
  rcases told_or hO with hb | hb
  · simp only [hb, ne10, if_true, if_false]
    by_cases hw : 0 ≤ a1 ∧ a1 ≤ 2
    · rw [if_pos hw, if_pos hw]
      obtain ⟨w, w1, rfl⟩ := in_nat 2 (by omega) rfl hw
      obtain ⟨m, f, s, m1, m2, m3⟩ := m_twice N hN h3 hc10 w1
      obtain ⟨κ1, e1, g1, F1⟩ := c_findTwice N hN hs hR.wd.2.2.1 hl hc10 m2
      have hs1 := hs.chg g1
      rw [e1, bo_s]
      simp -implicitDefEqProofs only [hs1.top, ck_1, bo_s, inbT (show w < 3 by omega) (by decide), clN (show w < 2147483648 by omega), m3]
      have hRel : Rel (A 0) κ1 μ := ⟨A, rfl, hR.ch (g1.ch.mono (fun r z => by unfold Dc; omega)) (QM.refl μ)⟩
      match w, w1 with
      | 0, _ => exact ⟨_, κ1, μ, rfl, by rw [if_pos rfl, F1.1], hRel⟩
      | 1, _ => exact ⟨_, κ1, μ, rfl, by rw [if_neg (by decide), if_pos rfl, F1.2.1], hRel⟩
      | 2, _ => exact ⟨_, κ1, μ, rfl, by rw [if_neg (by decide), if_neg (by decide), F1.2.2], hRel⟩
    · rw [if_neg hw, if_neg hw]
      exact ⟨-1, κ, μ, rfl, rfl, A, rfl, hR⟩
  · simp only [hb, ne01, if_true, if_false]
    exact ⟨-1, κ, μ, rfl, rfl, A, rfl, hR⟩
