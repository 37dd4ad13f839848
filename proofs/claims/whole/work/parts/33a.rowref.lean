/-! row: all rows of marks, in order; the reference -/
/-- the j-th mark of a row: none, or the letter before j -/
def dgt (j : Nat) : Int32 := if j = 0 then -1 else nI (j - 1)
def edS (c h e : Nat) (S : Nat → Int32) (m : Int32) : Nat → Int32 := (sEd S c h e (-1) m).1
def wN (S : Nat → Int32) (c : Nat) : Nat := (bcI (sWrong S c)).toNatClampNeg
theorem wN_spec (S : Nat → Int32) {c : Nat} (hc : c ≤ 10) : wN S c < 11 ∧ bcI (sWrong S c) = nI (wN S c) := by
  obtain ⟨k, hk, e⟩ := bcI_F (sWr S) hc
  have e2 : bcI (sWrong S c) = nI k := e
  unfold wN
  rw [e2, nI_clamp (by omega)]
  exact ⟨hk, rfl⟩
/-- the best count so far (11: none) and its row -/
abbrev Acc := Nat × (Nat → Int32)
def enG (f : Nat → Acc → Acc) : Nat → Nat → Acc → Acc
  | 0, _, a => a
  | k + 1, j, a => enG f k (j + 1) (f j a)
/-- all rows of r more marks behind x, by order -/
def en (c h : Nat) : Nat → Nat → Nat → (Nat → Int32) → (Nat → Int32) → Acc → Acc
  | 0, _, _, S, T, a => if wN S c < a.1 then (wN S c, T) else a
  | r + 1, x, e, S, T, a => enG (fun j a => if j = 0 ∨ sLs S c (j - 1) = true then en c h r (x + 1) (e + 1) (edS c h e S (dgt j)) (upd T x (dgt j)) a else a) (c + 1) 0 a
theorem enG_le {f : Nat → Acc → Acc} (hf : ∀ j a, (f j a).1 ≤ a.1) : ∀ k j a, (enG f k j a).1 ≤ a.1
  | 0, _, _ => Nat.le_refl _
  | k + 1, j, a => by
    have h1 := enG_le hf k (j + 1) (f j a)
    have h2 := hf j a
    rw [enG]
    omega
theorem en_le (c h : Nat) : ∀ (r x e : Nat) (S T : Nat → Int32) (a : Acc), (en c h r x e S T a).1 ≤ a.1
  | 0, x, e, S, T, a => by
    rw [en]
    split
    · show wN S c ≤ a.1; omega
    · exact Nat.le_refl _
  | r + 1, x, e, S, T, a => by
    rw [en]
    refine enG_le (fun j a => ?_) _ _ _
    split
    · exact en_le c h r _ _ _ _ _
    · exact Nat.le_refl _
theorem en_lt {c : Nat} (hc : c ≤ 10) (h : Nat) : ∀ (r x e : Nat) (S T : Nat → Int32) (a : Acc), (en c h r x e S T a).1 < 11
  | 0, x, e, S, T, a => by
    have := (wN_spec S hc).1
    rw [en]
    split
    · exact this
    · omega
  | r + 1, x, e, S, T, a => by
    rw [en, enG]
    refine Nat.lt_of_le_of_lt (enG_le (fun j a => ?_) _ _ _) ?_
    · split
      · exact en_le c h r _ _ _ _ _
      · exact Nat.le_refl _
    · rw [if_pos (Or.inl rfl)]
      exact en_lt hc h r _ _ _ _ _
/-- a mark is laid, where it may -/
def stp (c h e : Nat) (m : Int32) (S : Nat → Int32) : Option (Nat → Int32) := if m = -1 ∨ sLs S c m.toNatClampNeg = true then some (edS c h e S m) else none
/-- the first x marks of a row -/
def pfx (c h e : Nat) (S0 T : Nat → Int32) : Nat → Option (Nat → Int32)
  | 0 => some S0
  | x + 1 => (pfx c h e S0 T x).bind (stp c h (e + x) (T x))
theorem pfx_cong (c h e : Nat) (S0 : Nat → Int32) {T U : Nat → Int32} : ∀ x, (∀ i, i < x → T i = U i) → pfx c h e S0 T x = pfx c h e S0 U x
  | 0, _ => rfl
  | x + 1, hT => by
    rw [pfx, pfx, pfx_cong c h e S0 x (fun i hi => hT i (by omega)), hT x (by omega)]
theorem pfx_none {c h e : Nat} {S0 T : Nat → Int32} {x : Nat} (hx : pfx c h e S0 T x = none) : ∀ r, pfx c h e S0 T (x + r) = none
  | 0 => hx
  | r + 1 => by
    show (pfx c h e S0 T (x + r)).bind _ = none
    rw [pfx_none hx r]
    rfl
theorem dgt_0 : dgt 0 = -1 := rfl
theorem dgt_s (j : Nat) : dgt (j + 1) = nI j := by
  unfold dgt
  rw [if_neg (by omega), Nat.add_sub_cancel]
theorem dgt_up (j : Nat) : dgt j + 1 = dgt (j + 1) := by
  rw [dgt_s]
  unfold dgt
  split
  · rename_i z; subst z; decide
  · rename_i z
    rw [nI_1]
    congr 1
    omega
theorem nI_neg1 {j : Nat} (hj : j < 2 ^ 31) : ¬ nI j = -1 := fun z => absurd (z ▸ nI_pos hj : ¬ (-1 : Int32) < 0) (by decide)
theorem dgt_last {j c : Nat} (hj : j ≤ c) (hc : c ≤ 10) : dgt j = nI c - 1 ↔ j = c := by
  have hm : nI c - 1 = dgt c := by
    unfold dgt
    split
    · rename_i z; subst z; decide
    · rename_i z
      obtain ⟨k, rfl⟩ : ∃ k, c = k + 1 := ⟨c - 1, by omega⟩
      rw [sub1]; rfl
  rw [hm]
  refine ⟨fun z => ?_, fun z => by rw [z]⟩
  unfold dgt at z
  by_cases a : j = 0
  · by_cases b : c = 0
    · omega
    · rw [if_pos a, if_neg b] at z
      exact absurd z.symm (nI_neg1 (by omega))
  · rw [if_neg a, if_neg (by omega)] at z
    have := (nI_eq (by omega) (by omega)).mp z
    omega
theorem stp_dgt {c h e j : Nat} (hj : j ≤ c) (hc : c ≤ 10) (S : Nat → Int32) : stp c h e (dgt j) S = if j = 0 ∨ sLs S c (j - 1) = true then some (edS c h e S (dgt j)) else none := by
  unfold stp
  by_cases a : j = 0
  · subst a
    rw [if_pos (Or.inl dgt_0), if_pos (Or.inl rfl)]
  · obtain ⟨k, rfl⟩ : ∃ k, j = k + 1 := ⟨j - 1, by omega⟩
    rw [dgt_s, nI_clamp (by omega), Nat.add_sub_cancel]
    have n1 : ¬ nI k = -1 := nI_neg1 (by omega)
    by_cases b : sLs S c k = true
    · rw [if_pos (Or.inr b), if_pos (Or.inr b)]
    · rw [if_neg (fun z => z.elim n1 b), if_neg (fun z => z.elim a b)]
def wv (c : Nat) : Option (Nat → Int32) → Int32
  | none => -1
  | some S => bcI (sWrong S c)
/-- the reference reads a row of marks -/
theorem m_wr65 (N : Nat) (hN : 20000 ≤ N) {μ : Mz} {c h e : Nat} {S0 : Nat → Int32} (hO : OkS (ga 7 μ) c h e) (hK : Kp μ S0) (hT : Sb S0 (ga 7 μ)) (x : Int32) : b12_wrongByRow_65 N x μ = some (if x = 0 then -1 else bcI (sWrong (ga 7 μ) c), sa 7 S0 μ) := by
  unfold b12_wrongByRow_65
  rw [m_wrong N (by omega) μ hO.2.1 hO.2.2.1, bd_s, show p12_bits N (sWrong (ga 7 μ) c) = _ from m_bits N (by omega) _ hO.2.2.1, bo_s, m_back N (by omega) hK hT, bo_s]
  split <;> rfl
theorem m_wrLoop (N : Nat) (hN : 20000 ≤ N) {c h e d : Nat} {S0 T : Nat → Int32} (hd : d ≤ 4) (he : e ≤ 999) (hT : ∀ i, i < d → ∃ j, j ≤ c ∧ T i = dgt j) : ∀ (r x n : Nat) (μ : Mz), x + r = d → r < n → pfx c h e S0 T x = some (ga 7 μ) → OkS (ga 7 μ) c h (e + x) → Sb S0 (ga 7 μ) → Kp μ S0 → gi 13 μ = -1 → ga 10 μ = T → ∃ μ1, b12_wrongByRow_4 N n (nI d) 1 (nI x) μ = some (wv c (pfx c h e S0 T d), μ1) ∧ MCh Ip Rp μ μ1 ∧ ga 7 μ1 = S0
  | 0, x, n, μ, hx, hn, hp, hO, hb, hK, h13, h10 => by
    obtain ⟨n, rfl⟩ : ∃ q, n = q + 1 := ⟨n - 1, by omega⟩
    rw [Nat.add_zero] at hx
    subst hx
    refine ⟨sa 7 S0 μ, ?_, ⟨fun _ _ => rfl, fun k hk => ga_sa_ne hk _ _, fun _ => rfl⟩, ga_sa _ _ _⟩
    rw [b12_wrongByRow_4, if_pos (nI_le (Nat.le_refl x) (by omega)), m_wr65 N hN hO hK hb, if_neg ne10, hp]
    rfl
  | r + 1, x, n, μ, hx, hn, hp, hO, hb, hK, h13, h10 => by
    obtain ⟨n, rfl⟩ : ∃ q, n = q + 1 := ⟨n - 1, by omega⟩
    obtain ⟨j, hj, ej⟩ := hT x (by omega)
    have hc : c ≤ 10 := hO.2.2.1
    have hc3 : ga 7 μ 3 = nI c := hO.2.1
    have hx4 : x < 4 := by omega
    have p1 : pfx c h e S0 T (x + 1) = stp c h (e + x) (T x) (ga 7 μ) := by rw [pfx, hp]; rfl
    rw [ej, stp_dgt hj hc] at p1
    -- how it goes on behind a mark that may be laid
    have go : ∀ (m : Int32), m = dgt j → (j = 0 ∨ sLs (ga 7 μ) c (j - 1) = true) → ∃ μ1, b12_wrongByRow_40 N (b12_wrongByRow_4 N n) (nI d) (nI x) 1 μ = some (wv c (pfx c h e S0 T d), μ1) ∧ MCh Ip Rp μ μ1 ∧ ga 7 μ1 = S0 := by
      intro m hm hl
      have hmk : dgt j = -1 ∨ ∃ k, k < c ∧ dgt j = nI k := by
        by_cases a : j = 0
        · subst a; exact Or.inl rfl
        · obtain ⟨k, rfl⟩ : ∃ k, j = k + 1 := ⟨j - 1, by omega⟩
          exact Or.inr ⟨k, by omega, dgt_s k⟩
      have e2 := m_printsE N (by omega) μ hO hmk
      rw [h13] at e2
      rw [if_pos hl] at p1
      generalize hμ2 : mP μ (sEd (ga 7 μ) c h (e + x) (-1) (dgt j)).1 (sEd (ga 7 μ) c h (e + x) (-1) (dgt j)).2.1 (sEd (ga 7 μ) c h (e + x) (-1) (dgt j)).2.2 = μ2 at e2
      have h72 : ga 7 μ2 = edS c h (e + x) (ga 7 μ) (dgt j) := by rw [← hμ2]; exact ga_sa _ _ _
      have mc2 : MCh Ip Rp μ μ2 := by
        rw [← hμ2]
        exact ⟨fun k hk => by unfold Ip at hk; show gi k (si 14 _ (si 15 _ μ)) = _; rw [gi_si_ne (by omega), gi_si_ne (by omega)], fun k hk => ga_sa_ne hk _ _, fun _ => rfl⟩
      have hO2 : OkS (ga 7 μ2) c h (e + (x + 1)) := by rw [h72]; exact OkS_ed hO (by omega) (-1) (dgt j)
      have hb2 : Sb S0 (ga 7 μ2) := by
        rw [h72]
        exact hb.trans (fun k hk => sEd_o _ hc h (e + x) (-1) (dgt j) (by omega))
      have hK2 : Kp μ2 S0 := fun k hk => by rw [mc2.2.1 9 (by unfold Rp; omega)]; exact hK k hk
      obtain ⟨μ3, e3, mc3, h73⟩ := m_wrLoop N hN hd he hT r (x + 1) n μ2 (by omega) (by omega) (by rw [p1, h72]) hO2 hb2 hK2 (by rw [mc2.1 13 (by unfold Ip; omega)]; exact h13) (by rw [mc2.2.1 10 (by unfold Rp; omega)]; exact h10)
      refine ⟨μ3, ?_, mc2.trans mc3, h73⟩
      unfold b12_wrongByRow_40
      simp only [if_neg ne10, inbT hx4 (by decide), ck_1, clN (show x < 2147483648 by omega), h10, ej, e2, bo_s, lt_s9, nI_1]
      exact e3
    rw [b12_wrongByRow_4, if_neg (nI_ge (show x < d by omega) (by omega)), if_neg ne10]
    simp only [inbT hx4 (by decide), ck_1, clN (show x < 2147483648 by omega), h10, ej]
    by_cases a : j = 0
    · subst a
      rw [if_pos (show dgt 0 < 0 by decide)]
      unfold b12_wrongByRow_35
      exact go _ rfl (Or.inl rfl)
    · obtain ⟨k, rfl⟩ : ∃ k, j = k + 1 := ⟨j - 1, by omega⟩
      rw [dgt_s, if_neg (nI_pos (by omega)), m_isLoose N (by omega) μ hc3 hc (show k < c by omega), bd_s, ite10]
      by_cases b : sLs (ga 7 μ) c k = true
      · rw [if_pos b]
        unfold b12_wrongByRow_35
        exact go _ rfl (Or.inr b)
      · rw [if_neg b]
        rw [Nat.add_sub_cancel, if_neg (fun z => z.elim a b)] at p1
        have e2 := m_printsE N (by omega) μ hO (m := -1) (Or.inl rfl)
        rw [h13] at e2
        generalize hμ2 : mP μ (sEd (ga 7 μ) c h (e + x) (-1) (-1)).1 (sEd (ga 7 μ) c h (e + x) (-1) (-1)).2.1 (sEd (ga 7 μ) c h (e + x) (-1) (-1)).2.2 = μ2 at e2
        have h72 : ga 7 μ2 = edS c h (e + x) (ga 7 μ) (-1) := by rw [← hμ2]; exact ga_sa _ _ _
        have mc2 : MCh Ip Rp μ μ2 := by
          rw [← hμ2]
          exact ⟨fun k hk => by unfold Ip at hk; show gi k (si 14 _ (si 15 _ μ)) = _; rw [gi_si_ne (by omega), gi_si_ne (by omega)], fun k hk => ga_sa_ne hk _ _, fun _ => rfl⟩
        have hO2 : OkS (ga 7 μ2) c h (e + x + 1) := by rw [h72]; exact OkS_ed hO (by omega) (-1) (-1)
        have hb2 : Sb S0 (ga 7 μ2) := by
          rw [h72]
          exact hb.trans (fun k hk => sEd_o _ hc h (e + x) (-1) (-1) (by omega))
        have hK2 : Kp μ2 S0 := fun k hk => by rw [mc2.2.1 9 (by unfold Rp; omega)]; exact hK k hk
        obtain ⟨n, rfl⟩ : ∃ q, n = q + 1 := ⟨n - 1, by omega⟩
        refine ⟨sa 7 S0 μ2, ?_, mc2.trans ⟨fun _ _ => rfl, fun k hk => ga_sa_ne hk _ _, fun _ => rfl⟩, ga_sa _ _ _⟩
        unfold b12_wrongByRow_40
        rw [if_pos rfl, e2, bo_s, lt_s9, nI_1, b12_wrongByRow_4]
        have pn : pfx c h e S0 T d = none := by
          rw [show d = x + 1 + r by omega]
          exact pfx_none p1 r
        rw [pn, m_wr65 N hN hO2 hK2 hb2, if_pos rfl]
        split
        · rfl
        · rfl
