/-! row: the reference goes through all rows -/
def nxF (c : Nat) : Nat → Mz → Int32 × Mz
  | 0, μ => (0, μ)
  | x + 1, μ => if ga 10 μ x = nI c - 1 then nxF c x (sa 10 (upd (ga 10 μ) x (-1)) μ) else (1, sa 10 (upd (ga 10 μ) x (ga 10 μ x + 1)) μ)
theorem nI_m (x : Nat) : nI (x + 1) - 1 = nI x := sub1 x
theorem m_next (N : Nat) {c : Nat} : ∀ (x n : Nat) (μ : Mz), x ≤ 4 → x < n → ga 7 μ 3 = nI c → b12_nextRow_4 N n (nI x - 1) μ = some (nxF c x μ)
  | 0, n, μ, hx, hn, h3 => by
    obtain ⟨n, rfl⟩ : ∃ q, n = q + 1 := ⟨n - 1, by omega⟩
    rw [b12_nextRow_4, if_pos (by decide)]
    unfold b12_nextRow_38
    rw [if_neg (by decide)]
    rfl
  | x + 1, n, μ, hx, hn, h3 => by
    obtain ⟨n, rfl⟩ : ∃ q, n = q + 1 := ⟨n - 1, by omega⟩
    have hx4 : x < 4 := by omega
    rw [b12_nextRow_4, nI_m, if_neg (nI_pos (by omega))]
    simp only [inbT hx4 (by decide), ck_1, clN (show x < 2147483648 by omega), lt_s9, show (3 : Int32).toNatClampNeg = 3 from rfl, h3]
    rw [nxF]
    by_cases a : ga 10 μ x = nI c - 1
    · rw [if_pos a, if_pos a, show nI x + -1 = nI x - 1 by rw [Int32.sub_eq_add_neg]]
      exact m_next N x n _ (by omega) (by omega) (by rw [ga_sa_ne (by decide)]; exact h3)
    · rw [if_neg a, if_neg a]
      unfold b12_nextRow_38
      simp only [if_pos (show 0 ≤ nI x from Int32.not_lt.mp (nI_pos (by omega))), inbT hx4 (by decide), ck_1, clN (show x < 2147483648 by omega), lt_s9]
/-- a row is noted as the best -/
def bcF (T B : Nat → Int32) (i j : Nat) : Int32 := if j < i then T j else B j
theorem bcF_s (T B : Nat → Int32) (i : Nat) : upd (bcF T B i) i (T i) = bcF T B (i + 1) := by
  funext j
  rw [upd_at]
  unfold bcF
  by_cases h : j = i
  · rw [if_pos h, if_pos (by omega), h]
  · rw [if_neg h]
    by_cases h2 : j < i
    · rw [if_pos h2, if_pos (by omega)]
    · rw [if_neg h2, if_neg (by omega)]
theorem m_row53 (N : Nat) (hN : 20000 ≤ N) (k : Int32 → Int32 → Mz → Option (Int32 × Mz)) (x1 x2 : Int32) (μ : Mz) : b12_findsRow_53 N k N x1 x2 0 μ = b12_findsRow_79 N k x1 x2 (sa 11 (bcF (ga 10 μ) (ga 11 μ) 4) μ) := by
  have L := upL 4 (fun n i => b12_findsRow_53 N k n x1 x2 (nI i) (sa 11 (bcF (ga 10 μ) (ga 11 μ) i) μ) = b12_findsRow_79 N k x1 x2 (sa 11 (bcF (ga 10 μ) (ga 11 μ) 4) μ)) (by
    intro n
    rw [b12_findsRow_53, if_pos (show (4 : Int32) ≤ nI 4 from nI_le (a := 4) (b := 4) (by omega) (by omega))]) (by
    intro n i hi ih
    rw [b12_findsRow_53, if_neg (show ¬ (4 : Int32) ≤ nI i from nI_ge (b := 4) hi (by omega))]
    simp only [lt_s9, ck_1, inbT hi (by decide), clN (show i < 2147483648 by omega), ga_sa, ga_sa_ne (show 10 ≠ 11 by decide), sa_sa, bcF_s, nI_1]
    exact ih) N 0 (by omega) (by omega)
  have e : sa 11 (bcF (ga 10 μ) (ga 11 μ) 0) μ = μ := by
    have : bcF (ga 10 μ) (ga 11 μ) 0 = ga 11 μ := by
      funext j
      unfold bcF
      rw [if_neg (by omega)]
    rw [this, sa_ga]
  rw [e, nI_0] at L
  exact L
def bst (a : Acc) : Int32 := if a.1 = 11 then -1 else nI a.1
/-- where the reference stands among the rows -/
def IR (S0 : Nat → Int32) (μ0 μ : Mz) (a : Acc) : Prop := ga 7 μ = S0 ∧ Kp μ S0 ∧ gi 13 μ = -1 ∧ a.1 ≤ 11 ∧ (a.1 < 11 → ∀ i, i < 4 → ga 11 μ i = a.2 i) ∧ Mq μ0 μ
/-- how it goes on behind the last row of those that begin alike in x marks -/
def aft (N c d n x : Nat) (b : Int32) (μ : Mz) : Option (Int32 × Mz) := if (nxF c x μ).1 = 0 then some (b, (nxF c x μ).2) else b12_findsRow_26 N n (nI d) b (nxF c x μ).2
def enO (c h r x e : Nat) (T : Nat → Int32) (a : Acc) : Option (Nat → Int32) → Acc
  | none => a
  | some S => en c h r x e S T a
theorem m_79 (N : Nat) (hN : 20000 ≤ N) {c d n : Nat} (hd1 : d ≤ 4) (b : Int32) {μ : Mz} (h3 : ga 7 μ 3 = nI c) : b12_findsRow_79 N (b12_findsRow_26 N n) (nI d) b μ = aft N c d n d b μ := by
  unfold b12_findsRow_79 p12_nextRow
  rw [lt_s9, m_next N d N μ hd1 (by omega) h3, bd_s]
  rfl
theorem upd_self (T : Nat → Int32) (x : Nat) : upd T x (T x) = T := by
  funext j
  rw [upd_at]
  split
  · rename_i z; rw [z]
  · rfl
theorem upd_upd (T : Nat → Int32) (x : Nat) (u v : Int32) : upd (upd T x u) x v = upd T x v := by
  funext j
  rw [upd_at, upd_at, upd_at]
  split <;> rfl
theorem m_leaf (N : Nat) (hN : 20000 ≤ N) {c h e d : Nat} {S0 : Nat → Int32} (hd : d ≤ 4) (he : e ≤ 999) (hO : OkS S0 c h e) {μ0 μ : Mz} {a : Acc} (hI : IR S0 μ0 μ a) (hT : ∀ i, i < d → ∃ j, j ≤ c ∧ ga 10 μ i = dgt j) (n : Nat) : ∃ μ1, IR S0 μ0 μ1 (enO c h 0 d (e + d) (ga 10 μ) a (pfx c h e S0 (ga 10 μ) d)) ∧ ga 10 μ1 = ga 10 μ ∧ b12_findsRow_26 N (n + 1) (nI d) (bst a) μ = aft N c d n d (bst (enO c h 0 d (e + d) (ga 10 μ) a (pfx c h e S0 (ga 10 μ) d))) μ1 := by
  obtain ⟨i7, iK, i13, ia, ib, im⟩ := hI
  have hc : c ≤ 10 := hO.2.2.1
  obtain ⟨μ1, e1, mc, h71⟩ := m_wrLoop N hN (S0 := S0) (T := ga 10 μ) hd he hT d 0 N μ (by omega) (by omega) (by rw [i7]; rfl) (by rw [i7]; exact hO) (by rw [i7]; exact Sb.refl _) iK i13 rfl
  have e1' : p12_wrongByRow N (nI d) μ = some (wv c (pfx c h e S0 (ga 10 μ) d), μ1) := e1
  have h10 : ga 10 μ1 = ga 10 μ := mc.2.1 10 (by unfold Rp; omega)
  have h11 : ga 11 μ1 = ga 11 μ := mc.2.1 11 (by unfold Rp; omega)
  have h9 : ga 9 μ1 = ga 9 μ := mc.2.1 9 (by unfold Rp; omega)
  have h3 : ga 7 μ1 3 = nI c := by rw [h71]; exact hO.2.1
  have base : IR S0 μ0 μ1 a := ⟨h71, fun k hk => by rw [h9]; exact iK k hk, by rw [mc.1 13 (by unfold Ip; omega)]; exact i13, ia, fun z i hi => by rw [h11]; exact ib z i hi, im.trans mc.mq⟩
  rw [b12_findsRow_26, e1', bd_s]
  cases hp : pfx c h e S0 (ga 10 μ) d with
  | none =>
    refine ⟨μ1, base, h10, ?_⟩
    show (if (-1 : Int32) < 0 then _ else _) = _
    rw [if_pos (by decide), m_79 N hN hd _ h3]
    rfl
  | some S =>
    obtain ⟨w1, w2⟩ := wN_spec S hc
    rw [show wv c (some S) = nI (wN S c) from w2, if_neg (nI_pos (by omega))]
    show ∃ μ2, IR S0 μ0 μ2 (if wN S c < a.1 then (wN S c, ga 10 μ) else a) ∧ _ ∧ _ = aft N c d n d (bst (if wN S c < a.1 then (wN S c, ga 10 μ) else a)) μ2
    by_cases hb : wN S c < a.1
    · rw [if_pos hb]
      have he2 : (if bst a < 0 then b12_findsRow_53 N (b12_findsRow_26 N n) N (nI d) (nI (wN S c)) 0 μ1 else if nI (wN S c) < bst a then b12_findsRow_53 N (b12_findsRow_26 N n) N (nI d) (nI (wN S c)) 0 μ1 else b12_findsRow_79 N (b12_findsRow_26 N n) (nI d) (bst a) μ1) = b12_findsRow_53 N (b12_findsRow_26 N n) N (nI d) (nI (wN S c)) 0 μ1 := by
        unfold bst
        by_cases z : a.1 = 11
        · rw [if_pos z, if_pos (by decide)]
        · rw [if_neg z, if_neg (nI_pos (by omega)), if_pos ((nI_ltI (by omega) (by omega)).mpr hb)]
      rw [he2, m_row53 N hN]
      have hbst : bst (wN S c, ga 10 μ) = nI (wN S c) := by
        unfold bst
        rw [if_neg (show ¬ wN S c = 11 by omega)]
      refine ⟨sa 11 (bcF (ga 10 μ1) (ga 11 μ1) 4) μ1, ⟨by rw [ga_sa_ne (by decide)]; exact h71, fun k hk => by rw [ga_sa_ne (by decide), h9]; exact iK k hk, base.2.2.1, by show wN S c ≤ 11; omega, fun z i hi => ?_, base.2.2.2.2.2.trans (Mq.row (by unfold Rq; omega) _)⟩, by rw [ga_sa_ne (by decide)]; exact h10, ?_⟩
      · rw [ga_sa]
        unfold bcF
        rw [if_pos hi, h10]
      · rw [m_79 N hN hd _ (by rw [ga_sa_ne (by decide)]; exact h3), hbst]
    · rw [if_neg hb]
      have na : ¬ a.1 = 11 := by omega
      refine ⟨μ1, base, h10, ?_⟩
      have hbst : bst a = nI a.1 := by
        unfold bst
        rw [if_neg na]
      rw [hbst, if_neg (nI_pos (by omega)), if_neg (nI_nlt (by omega) (by omega)), m_79 N hN hd _ h3]
theorem enO_step {c h e x r j : Nat} (hj : j ≤ c) (hc : c ≤ 10) (S0 T : Nat → Int32) (a : Acc) : enO c h r (x + 1) (e + x + 1) (upd T x (dgt j)) a (pfx c h e S0 (upd T x (dgt j)) (x + 1)) = match pfx c h e S0 T x with
    | none => a
    | some S => if j = 0 ∨ sLs S c (j - 1) = true then en c h r (x + 1) (e + x + 1) (edS c h (e + x) S (dgt j)) (upd T x (dgt j)) a else a := by
  rw [pfx, pfx_cong c h e S0 (T := upd T x (dgt j)) (U := T) x (fun i hi => by rw [upd_at, if_neg (by omega)]), upd_at, if_pos rfl]
  cases pfx c h e S0 T x with
  | none => rfl
  | some S =>
    show enO c h r (x + 1) (e + x + 1) (upd T x (dgt j)) a (stp c h (e + x) (dgt j) S) = _
    rw [stp_dgt hj hc]
    show _ = if j = 0 ∨ sLs S c (j - 1) = true then en c h r (x + 1) (e + x + 1) (edS c h (e + x) S (dgt j)) (upd T x (dgt j)) a else a
    by_cases z : j = 0 ∨ sLs S c (j - 1) = true
    · rw [if_pos z, if_pos z]; rfl
    · rw [if_neg z, if_neg z]; rfl
/-- all rows that begin alike in x marks -/
theorem m_odo (N : Nat) (hN : 20000 ≤ N) {c h e d : Nat} {S0 : Nat → Int32} (hd : d ≤ 4) (he : e ≤ 999) (hO : OkS S0 c h e) {μ0 : Mz} : ∀ (r x : Nat) (μ : Mz) (a : Acc) (n : Nat), x + r = d → IR S0 μ0 μ a → (∀ i, i < d → ∃ j, j ≤ c ∧ ga 10 μ i = dgt j) → (∀ i, x ≤ i → i < d → ga 10 μ i = -1) → ∃ μ1, IR S0 μ0 μ1 (enO c h r x (e + x) (ga 10 μ) a (pfx c h e S0 (ga 10 μ) x)) ∧ ga 10 μ1 = ga 10 μ ∧ b12_findsRow_26 N (n + (c + 1) ^ r) (nI d) (bst a) μ = aft N c d n x (bst (enO c h r x (e + x) (ga 10 μ) a (pfx c h e S0 (ga 10 μ) x))) μ1
  | 0, x, μ, a, n, hx, hI, hT, hm => by
    rw [Nat.add_zero] at hx
    subst hx
    rw [Nat.pow_zero]
    exact m_leaf N hN hd he hO hI hT n
  | r + 1, x, μ, a, n, hx, hI, hT, hm => by
    have hc : c ≤ 10 := hO.2.2.1
    have ih := m_odo N hN hd he hO (μ0 := μ0) r (x + 1)
    have hx1 := hm x (by omega) (by omega)
    generalize hTT : ga 10 μ = T at hT hm hx1
    have hself : upd T x (-1) = T := by
      have := upd_self T x
      rw [hx1] at this
      exact this
    -- from the j-th mark at x on
    have M : ∀ (k j : Nat) (μ : Mz) (a : Acc) (n : Nat), j + k = c → IR S0 μ0 μ a → ga 10 μ = upd T x (dgt j) → ∃ μ1, IR S0 μ0 μ1 (enG (fun j a => match pfx c h e S0 T x with | none => a | some S => if j = 0 ∨ sLs S c (j - 1) = true then en c h r (x + 1) (e + x + 1) (edS c h (e + x) S (dgt j)) (upd T x (dgt j)) a else a) (k + 1) j a) ∧ ga 10 μ1 = T ∧ b12_findsRow_26 N (n + (k + 1) * (c + 1) ^ r) (nI d) (bst a) μ = aft N c d n x (bst (enG (fun j a => match pfx c h e S0 T x with | none => a | some S => if j = 0 ∨ sLs S c (j - 1) = true then en c h r (x + 1) (e + x + 1) (edS c h (e + x) S (dgt j)) (upd T x (dgt j)) a else a) (k + 1) j a)) μ1 := by
      intro k
      induction k with
      | zero =>
        intro j μ a n hj hI h10
        obtain ⟨μ1, I1, t1, e1⟩ := ih μ a n (by omega) hI (by
          intro i hi
          rw [h10, upd_at]
          split
          · exact ⟨j, by omega, rfl⟩
          · exact hT i hi) (by
          intro i i1 i2
          rw [h10, upd_at, if_neg (by omega)]
          exact hm i (by omega) i2)
        rw [h10, show e + (x + 1) = e + x + 1 by omega, enO_step (by omega) hc] at I1 e1
        rw [h10] at t1
        refine ⟨sa 10 T μ1, ⟨by rw [ga_sa_ne (by decide)]; exact I1.1, fun k hk => by rw [ga_sa_ne (by decide)]; exact I1.2.1 k hk, I1.2.2.1, I1.2.2.2.1, fun z i hi => by rw [ga_sa_ne (by decide)]; exact I1.2.2.2.2.1 z i hi, I1.2.2.2.2.2.trans (Mq.row (by unfold Rq; omega) _)⟩, ga_sa _ _ _, ?_⟩
        rw [Nat.zero_add, Nat.one_mul, e1]
        unfold aft
        have en1 : nxF c (x + 1) μ1 = nxF c x (sa 10 T μ1) := by
          rw [nxF, t1, upd_at, if_pos rfl, if_pos ((dgt_last (by omega) hc).mpr (by omega)), upd_upd, hself]
        rw [en1]
        rfl
      | succ k ihk =>
        intro j μ a n hj hI h10
        obtain ⟨μ1, I1, t1, e1⟩ := ih μ a (n + (k + 1) * (c + 1) ^ r) (by omega) hI (by
          intro i hi
          rw [h10, upd_at]
          split
          · exact ⟨j, by omega, rfl⟩
          · exact hT i hi) (by
          intro i i1 i2
          rw [h10, upd_at, if_neg (by omega)]
          exact hm i (by omega) i2)
        rw [h10, show e + (x + 1) = e + x + 1 by omega, enO_step (by omega) hc] at I1 e1
        rw [h10] at t1
        have en1 : nxF c (x + 1) μ1 = (1, sa 10 (upd T x (dgt (j + 1))) μ1) := by
          rw [nxF, t1, upd_at, if_pos rfl, if_neg (fun z => absurd ((dgt_last (by omega) hc).mp z) (by omega)), upd_upd, dgt_up]
        obtain ⟨μ2, I2, t2, e2⟩ := ihk (j + 1) (sa 10 (upd T x (dgt (j + 1))) μ1) _ n (by omega) ⟨by rw [ga_sa_ne (by decide)]; exact I1.1, fun k hk => by rw [ga_sa_ne (by decide)]; exact I1.2.1 k hk, I1.2.2.1, I1.2.2.2.1, fun z i hi => by rw [ga_sa_ne (by decide)]; exact I1.2.2.2.2.1 z i hi, I1.2.2.2.2.2.trans (Mq.row (by unfold Rq; omega) _)⟩ (ga_sa _ _ _)
        refine ⟨μ2, I2, t2, ?_⟩
        rw [show n + (k + 1 + 1) * (c + 1) ^ r = n + (k + 1) * (c + 1) ^ r + (c + 1) ^ r by rw [Nat.succ_mul]; omega, e1]
        unfold aft at e1 ⊢
        rw [en1, if_neg ne10]
        rw [e2]
        rfl
    obtain ⟨μ1, I1, t1, e1⟩ := M c 0 μ a n (by omega) hI (by rw [hTT, dgt_0, hself])
    have eE : enO c h (r + 1) x (e + x) T a (pfx c h e S0 T x) = enG (fun j a => match pfx c h e S0 T x with | none => a | some S => if j = 0 ∨ sLs S c (j - 1) = true then en c h r (x + 1) (e + x + 1) (edS c h (e + x) S (dgt j)) (upd T x (dgt j)) a else a) (c + 1) 0 a := by
      cases pfx c h e S0 T x with
      | none =>
        show a = _
        have : ∀ k j, enG (fun _ a => a) k j a = a := by
          intro k
          induction k with
          | zero => intro j; rfl
          | succ k ih => intro j; exact ih (j + 1)
        exact (this _ _).symm
      | some S => rfl
    rw [← eE] at I1 e1
    exact ⟨μ1, I1, t1, by rw [Nat.pow_succ, Nat.mul_comm]; exact e1⟩
