/-! copies of States; what is kept and laid back; the press made ready -/
theorem cpy10 (f g : Nat → Int32) {i : Nat} (hi : i < 10) : va_cpy f g 0 0 10 i = f i := by
  unfold va_cpy
  rw [if_pos ⟨Nat.zero_le _, by omega⟩, Nat.zero_add, Nat.sub_zero]
def Ls (b r : Nat) : Prop := b ≤ r ∧ r < b + 4
theorem c_copySt (N : Nat) {A : Nat → Nat} {κ : Cz} {b d : Nat} {S : Nat → Int32} (hA : Inj A) (hb : sSt κ A b) (hd : sSt κ A d) (hn : b + 4 ≤ d ∨ d + 4 ≤ b) (hS : St κ A d S) : ∃ κ1, p_State_copyFrom N (A b) (A d) κ = some κ1 ∧ St κ1 A b S ∧ Chg A (Ls b) κ κ1 := by
  have n0 : ¬ A d = A b := hA.ne (by omega)
  have n1 : ¬ A (d + 2) = A (b + 1) := hA.ne (by omega)
  have n2 : ¬ A (d + 3) = A (b + 1) := hA.ne (by omega)
  have n3 : ¬ A (d + 3) = A (b + 2) := hA.ne (by omega)
  have n4 : ¬ A (b + 2) = A (b + 1) := hA.ne (by omega)
  have n5 : ¬ A (b + 3) = A (b + 1) := hA.ne (by omega)
  have n6 : ¬ A (b + 3) = A (b + 2) := hA.ne (by omega)
  have n7 : ¬ A (b + 1) = A (b + 2) := hA.ne (by omega)
  have n8 : ¬ A (b + 1) = A (b + 3) := hA.ne (by omega)
  have n9 : ¬ A (b + 2) = A (b + 3) := hA.ne (by omega)
  unfold p_State_copyFrom
  simp -implicitDefEqProofs only [hb, hd, k0, k10, ck_1, bo_s, lt_s9, isK_ai, fr_ai, ln_ai, fi_ai, isK_fi, fr_fi, ln_fi, ai_fi, fi_fi, ai_ai, n0, n1, n2, n3, n4, n5, n6, false_and, if_false, decide_true, Nat.zero_add, Nat.le_refl]
  obtain ⟨s1, s2, s3, s4, s5, s6⟩ := hS
  refine ⟨_, rfl, ⟨?_, ?_, ?_, ?_, ?_, ?_⟩, ?_⟩
  · rw [fi_fi, if_pos ⟨rfl, rfl⟩]; exact s1
  · rw [fi_fi, if_neg (by simp), fi_fi, if_neg (by simp), fi_fi, if_pos ⟨rfl, rfl⟩]; exact s2
  · rw [fi_fi, if_neg (by simp), fi_fi, if_pos ⟨rfl, rfl⟩]; exact s3
  · intro i hi
    simp only [ai_fi]
    rw [ai_ai, if_neg n8, ai_ai, if_neg n7, ai_ai, if_pos rfl, cpy10 _ _ hi]; exact s4 i hi
  · intro i hi
    simp only [ai_fi]
    rw [ai_ai, if_neg n9, ai_ai, if_pos rfl, cpy10 _ _ hi]; exact s5 i hi
  · intro i hi
    simp only [ai_fi]
    rw [ai_ai, if_pos rfl, cpy10 _ _ hi]; exact s6 i hi
  · refine Chg.trans (Chg.trans (Chg.trans (Chg.trans (Chg.trans (Chg.sai hA κ (r := b + 1) ⟨by omega, by omega⟩ _) (Chg.sai hA _ (r := b + 2) ⟨by omega, by omega⟩ _)) (Chg.sai hA _ (r := b + 3) ⟨by omega, by omega⟩ _)) (Chg.sfi hA _ (r := b) ⟨by omega, by omega⟩ _ _)) (Chg.sfi hA _ (r := b) ⟨by omega, by omega⟩ _ _)) (Chg.sfi hA _ (r := b) ⟨by omega, by omega⟩ _ _)
/-- kept up to i -/
def kpF (S K : Nat → Int32) (i k : Nat) : Int32 := if k < i then S (10 + k) else K k
def lbF (S K : Nat → Int32) (i j : Nat) : Int32 := if 10 ≤ j ∧ j < 10 + i then K (j - 10) else S j
theorem kpF_s (S K : Nat → Int32) (i : Nat) : upd (kpF S K i) i (S (10 + i)) = kpF S K (i + 1) := by
  funext k
  rw [upd_at]
  unfold kpF
  by_cases h : k = i
  · rw [if_pos h, if_pos (by omega), h]
  · rw [if_neg h]
    by_cases h2 : k < i
    · rw [if_pos h2, if_pos (by omega)]
    · rw [if_neg h2, if_neg (by omega)]
theorem lbF_s (S K : Nat → Int32) (i : Nat) : upd (lbF S K i) (10 + i) (K i) = lbF S K (i + 1) := by
  funext k
  rw [upd_at]
  unfold lbF
  by_cases h : k = 10 + i
  · rw [if_pos h, if_pos (by omega), h, Nat.add_sub_cancel_left]
  · rw [if_neg h]
    by_cases h2 : 10 ≤ k ∧ k < 10 + i
    · rw [if_pos h2, if_pos (by omega)]
    · rw [if_neg h2, if_neg (by omega)]
theorem m_keeps (N : Nat) (hN : 34 ≤ N) (μ : Mz) : p12_keeps N μ = some (sa 9 (kpF (ga 7 μ) (ga 9 μ) 33) μ) := by
  have L := upL 33 (fun n i => b12_keeps_2 N n (nI i) (sa 9 (kpF (ga 7 μ) (ga 9 μ) i) μ) = some (sa 9 (kpF (ga 7 μ) (ga 9 μ) 33) μ)) (by
    intro n
    rw [b12_keeps_2, if_pos (show (33 : Int32) ≤ nI 33 from nI_le (a := 33) (b := 33) (by omega) (by omega))]) (by
    intro n i hi ih
    show b12_keeps_2 N (n + 1) (nI i) (sa 9 (kpF (ga 7 μ) (ga 9 μ) i) μ) = _
    rw [b12_keeps_2, show (33 : Int32) = nI 33 from rfl, if_neg (nI_ge hi (by omega)), show (10 : Int32) = nI 10 from rfl, nI_add]
    simp only [lt_s9, ck_1, inbT (show 10 + i < 129 by omega) (by decide), inbT hi (by decide), clN (show 10 + i < 2147483648 by omega), clN (show i < 2147483648 by omega), ga_sa, ga_sa_ne (show 7 ≠ 9 by decide), sa_sa, kpF_s, nI_1]
    exact ih) N 0 (by omega) (by omega)
  have e : sa 9 (kpF (ga 7 μ) (ga 9 μ) 0) μ = μ := by
    have : kpF (ga 7 μ) (ga 9 μ) 0 = ga 9 μ := by funext k; simp [kpF]
    rw [this, sa_ga]
  rw [e, nI_0] at L
  exact L
theorem m_laysBack (N : Nat) (hN : 34 ≤ N) (μ : Mz) : p12_laysBack N μ = some (sa 7 (lbF (ga 7 μ) (ga 9 μ) 33) μ) := by
  have L := upL 33 (fun n i => b12_laysBack_2 N n (nI i) (sa 7 (lbF (ga 7 μ) (ga 9 μ) i) μ) = some (sa 7 (lbF (ga 7 μ) (ga 9 μ) 33) μ)) (by
    intro n
    rw [b12_laysBack_2, if_pos (show (33 : Int32) ≤ nI 33 from nI_le (a := 33) (b := 33) (by omega) (by omega))]) (by
    intro n i hi ih
    show b12_laysBack_2 N (n + 1) (nI i) (sa 7 (lbF (ga 7 μ) (ga 9 μ) i) μ) = _
    rw [b12_laysBack_2, show (33 : Int32) = nI 33 from rfl, if_neg (nI_ge hi (by omega)), show (10 : Int32) = nI 10 from rfl, nI_add]
    simp only [lt_s9, ck_1, inbT (show 10 + i < 129 by omega) (by decide), inbT hi (by decide), clN (show 10 + i < 2147483648 by omega), clN (show i < 2147483648 by omega), ga_sa, ga_sa_ne (show 9 ≠ 7 by decide), sa_sa, lbF_s, nI_1]
    exact ih) N 0 (by omega) (by omega)
  have e : sa 7 (lbF (ga 7 μ) (ga 9 μ) 0) μ = μ := by
    have : lbF (ga 7 μ) (ga 9 μ) 0 = ga 7 μ := by
      funext k
      unfold lbF
      rw [if_neg (by omega)]
    rw [this, sa_ga]
  rw [e, nI_0] at L
  exact L
/-- what was kept is S -/
def Kp (μ : Mz) (S : Nat → Int32) : Prop := ∀ k, k < 33 → ga 9 μ k = S (10 + k)
/-- S but for its state -/
def Sb (S T : Nat → Int32) : Prop := ∀ j, j < 10 ∨ 43 ≤ j → T j = S j
theorem lb_back {S T K : Nat → Int32} (hK : ∀ k, k < 33 → K k = S (10 + k)) (hT : Sb S T) : lbF T K 33 = S := by
  funext j
  unfold lbF
  by_cases h : 10 ≤ j ∧ j < 10 + 33
  · rw [if_pos h, hK _ (by omega)]
    congr 1
    omega
  · rw [if_neg h]
    exact hT j (by omega)
theorem m_back (N : Nat) (hN : 34 ≤ N) {μ : Mz} {S : Nat → Int32} (hK : Kp μ S) (hT : Sb S (ga 7 μ)) : p12_laysBack N μ = some (sa 7 S μ) := by
  rw [m_laysBack N hN μ, lb_back hK hT]
theorem c_ruleOf (N : Nat) {A : Nat → Nat} {κ : Cz} {μ : Mz} (hR : RelA A κ μ) {f : Int32} (hf : Fo f (gi 1 μ)) : ∃ o, p_ErrataRow_ruleOf N (A 0) f κ = some (o, κ) ∧ ((f = -1 ∧ o = none) ∨ ∃ r, r < 6 ∧ f = nI r ∧ o = some (A (300 + 5 * r)) ∧ RuC κ A μ r) := by
  have hs := hR.sh
  obtain ⟨R, r1, r2, r3, r4⟩ := hR.rl
  unfold p_ErrataRow_ruleOf
  rcases hf with rfl | ⟨r, h1, rfl, h3⟩
  · exact ⟨none, by rw [if_pos (by decide)], Or.inl ⟨rfl, rfl⟩⟩
  · have hr : r < R := by
      rw [r3] at h3
      exact (nI_ltI (by omega) (by omega)).mp h3
    refine ⟨some (A (300 + 5 * r)), ?_, Or.inr ⟨r, h1, rfl, rfl, (r4 r hr).2⟩⟩
    rw [if_neg (nI_pos (by omega))]
    simp -implicitDefEqProofs only [hs.top, ck_1, r2, bo_s, inbT h1 (by decide), clN (show r < 2147483648 by omega), (r4 r hr).1, oc_s]
    rw [if_neg (nI_ge hr (by omega))]
theorem c_ready (N : Nat) {A : Nat → Nat} {κ : Cz} {μ : Mz} (hR : RelA A κ μ) {f : Int32} (hf : Fo f (gi 1 μ)) : ∃ κ1, p_ErrataRow_readyPress N (A 0) f κ = some κ1 ∧ Ch A (fun r => r = 40) κ κ1 ∧ fi κ1 (A 40) 3 = -1 ∧ ∀ μ1, gi 11 μ1 = f → ga 1 μ1 = ga 1 μ → ga 3 μ1 = ga 3 μ → ga 4 μ1 = ga 4 μ → RF κ1 A μ1 := by
  have hs := hR.sh
  have hA := hs.inj
  obtain ⟨o, e1, ho⟩ := c_ruleOf N hR hf
  have g : Ch A (fun r => r = 40) κ (sfi (A 40) 3 (-1) (sfr (A 40) 2 o κ)) := (Ch.rule40 A _ κ o).trans (Chg.sfi (L := fun r => r = 40) hA _ (r := 40) rfl _ _).ch
  refine ⟨sfi (A 40) 3 (-1) (sfr (A 40) 2 o κ), ?_, g, ?_, ?_⟩
  · unfold p_ErrataRow_readyPress
    simp -implicitDefEqProofs only [hs.top, hs.pr, ck_1, bo_s, bd_s, e1, lt_s9, isK_fr, fr40 hA (show 0 ≠ 40 ∨ 10 ≠ 2 by decide)]
  · rw [fi_fi, if_pos ⟨rfl, rfl⟩]
  · intro μ1 m0 m1 m3 m4
    have hfr : fr (sfi (A 40) 3 (-1) (sfr (A 40) 2 o κ)) (A 40) 2 = o := by rw [fr_fi, fr_fr, if_pos ⟨rfl, rfl⟩]
    rcases ho with ⟨h1, h2⟩ | ⟨r, h1, h2, h3, h4⟩
    · exact Or.inl ⟨m0.trans h1, hfr.trans h2⟩
    · exact Or.inr ⟨r, h1, m0.trans h2, hfr.trans h3, h4.ch hA g (fun q z1 z2 z3 => by omega) m1 m3 m4⟩
/-- both go on from here: trial and said -/
def TR (A : Nat → Nat) (κ : Cz) (μ : Mz) (c h e : Nat) : Prop := Sh κ A ∧ Bk κ A 21 (ga 7 μ) ∧ St κ A 66 (ga 7 μ) ∧ OkS (ga 7 μ) c h e ∧ RF κ A μ ∧ fi κ (A 40) 3 = gi 13 μ ∧ (h = 0 → gi 13 μ = -1)
theorem Dc_Lp (r : Nat) (h : Lp 66 r) : Dc r := by
  unfold Lp at h
  unfold Dc
  omega
/-- what a start changes in the class -/
def Ds (r : Nat) : Prop := r = 40 ∨ (66 ≤ r ∧ r < 70)
theorem Ds_Dc (r : Nat) (h : Ds r) : Dc r := by
  unfold Ds at h
  unfold Dc
  omega
theorem c_startAs (N : Nat) {A : Nat → Nat} {κ : Cz} {μ : Mz} (hR : RelA A κ μ) {f : Int32} (hf : Fo f (gi 1 μ)) {b : Nat} (hb : b = 29 ∨ b = 25) {S : Nat → Int32} (hS : St κ A b S) : ∃ κ0 κ1, p_ErrataRow_readyPress N (A 0) f κ = some κ0 ∧ Sh κ0 A ∧ p_State_copyFrom N (A 66) (A b) κ0 = some κ1 ∧ Ch A Ds κ κ1 ∧ St κ1 A 66 S ∧ fi κ1 (A 40) 3 = -1 ∧ ∀ μ1, gi 11 μ1 = f → ga 1 μ1 = ga 1 μ → ga 3 μ1 = ga 3 μ → ga 4 μ1 = ga 4 μ → RF κ1 A μ1 := by
  have hs := hR.sh
  have hA := hs.inj
  obtain ⟨κ0, e0, g0, f0, rf0⟩ := c_ready N hR hf
  have hs0 := hs.ch g0
  have hsb : sSt κ0 A b := by
    rcases hb with rfl | rfl
    · exact hs0.st29
    · exact hs0.st25
  obtain ⟨κ1, e1, s1, g1⟩ := c_copySt N hA hs0.st66 hsb (by omega) (hS.ch g0 (fun r z1 z2 z3 => by omega))
  refine ⟨κ0, κ1, e0, hs0, e1, ?_, s1, ?_, ?_⟩
  · exact (g0.mono (fun r z => by unfold Ds; omega)).trans (g1.ch.mono (fun r z => by unfold Ls at z; unfold Ds; omega))
  · rw [g1.fi (by unfold Ls; omega)]; exact f0
  · intro μ1 m0 m1 m3 m4
    exact (rf0 μ1 m0 m1 m3 m4).chg g1 (fun q z1 z2 z3 => by unfold Ls at z3; omega) rfl rfl rfl rfl
theorem c_start (N : Nat) {A : Nat → Nat} {κ : Cz} {μ : Mz} (hR : RelA A κ μ) {b : Nat} (hb : b = 29 ∨ b = 25) {S : Nat → Int32} (hS : St κ A b S) : ∃ κ1, p_ErrataRow_startFrom N (A 0) (A b) κ = some κ1 ∧ Ch A Ds κ κ1 ∧ St κ1 A 66 S ∧ fi κ1 (A 40) 3 = -1 ∧ ∀ μ1, gi 11 μ1 = gi 11 μ → ga 1 μ1 = ga 1 μ → ga 3 μ1 = ga 3 μ → ga 4 μ1 = ga 4 μ → RF κ1 A μ1 := by
  have hs := hR.sh
  obtain ⟨κ0, κ1, e0, hs0, e1, g1, s1, f1, rf⟩ := c_startAs N hR hR.fo hb hS
  refine ⟨κ1, ?_, g1, s1, f1, rf⟩
  have h3 : fi κ (A 20) 3 = gi 11 μ := hR.wd.2.2.2.2.1
  unfold p_ErrataRow_startFrom
  simp -implicitDefEqProofs only [hs.top, hs.w20, ck_1, bo_s, h3, e0, hs0.top, hs0.tr, e1]
theorem OkV.oks {S : Nat → Int32} {c h e q n : Nat} (hO : OkV S c h e q n) (h0 : S 0 = 1) : OkS S c h e := by
  obtain ⟨a1, a2, a3, a4, a5, a6, a7, a8, a9, _⟩ := hO
  exact ⟨h0, a2, a1, a4, a3, a6, by omega, a7, a8, a9⟩
theorem begS_o (S : Nat → Int32) : Sb S (begS S) := by
  intro j hj
  unfold begS
  rw [if_neg (by omega), if_neg (by omega), if_neg (by omega), if_neg (by omega), if_neg (by omega), if_neg (by omega)]
theorem begS_13 (S : Nat → Int32) {k : Nat} (hk : k < 10) : begS S (13 + k) = S (53 + k) := by
  unfold begS
  rw [if_neg (by omega), if_neg (by omega), if_neg (by omega), if_pos (by omega)]
  congr 1
  omega
theorem begS_23 (S : Nat → Int32) {k : Nat} (hk : k < 10) : begS S (23 + k) = 0 := by
  unfold begS
  rw [if_neg (by omega), if_neg (by omega), if_neg (by omega), if_neg (by omega), if_pos (by omega)]
theorem OkS.beg {S : Nat → Int32} {c h e : Nat} (hO : OkS S c h e) : OkS (begS S) c h 0 := by
  obtain ⟨h0, h3, hc, h2, h12, h10, _, h9, hp, hv⟩ := hO
  have o := begS_o S
  refine ⟨(o _ (by omega)).trans h0, (o _ (by omega)).trans h3, hc, (o _ (by omega)).trans h2, h12, rfl, by omega, ⟨⟨0, by omega, rfl⟩, fun k hk => ⟨0, by omega, begS_23 S hk⟩⟩, fun k hk => ?_, fun k hk => ?_, fun i hi => ?_⟩
  · rw [begS_13 S hk]; exact (hv.1 k hk).2
  · rw [o _ (by omega), o _ (by omega)]; exact hv.1 k hk
  · rw [o _ (by omega), o _ (by omega)]; exact hv.2 i hi
theorem TR.mk {A : Nat → Nat} {κ κ1 : Cz} {μ μ1 : Mz} {c h e : Nat} (hR : RelA A κ μ) (g : Ch A Dc κ κ1) (hS : St κ1 A 66 (ga 7 μ1)) (hb : Sb (ga 7 μ) (ga 7 μ1)) (hO : OkS (ga 7 μ1) c h e) (hF : RF κ1 A μ1) (hl : fi κ1 (A 40) 3 = gi 13 μ1) (hl0 : h = 0 → gi 13 μ1 = -1) : TR A κ1 μ1 c h e := by
  refine ⟨hR.sh.ch g, ?_, hS, hO, hF, hl, hl0⟩
  exact (hR.wd.1.ch g (fun r z1 z2 z3 => by unfold Dc at z3; omega)).congr (fun j hj => (hb j hj).symm)
/-- an edition on trial -/
theorem tr_pass (N : Nat) (hN : 401 ≤ N) {A : Nat → Nat} {κ : Cz} {μ : Mz} {c h e : Nat} (hT : TR A κ μ c h e) (he : e + 1 < 2 ^ 30) : ∃ (m : Int32) (κ1 : Cz) (μ1 : Mz), p_Press_printEdition N (A 40) (A 66) κ = some (m, κ1) ∧ p12_passes N μ = some (m, μ1) ∧ TR A κ1 μ1 c h (e + 1) ∧ Chg A (Lp 66) κ κ1 ∧ MCh Ip Rp μ μ1 ∧ Sb (ga 7 μ) (ga 7 μ1) ∧ fi κ1 (A 40) 5 = gi 14 μ1 ∧ fi κ1 (A 40) 4 = gi 15 μ1 ∧ (∃ q, gi 14 μ1 = bitsF q c 0) ∧ (∃ q, gi 15 μ1 = bitsF q c 0) ∧ (∀ j, 13 + c ≤ j → j < 23 → ga 7 μ1 j = ga 7 μ j) ∧ ga 7 μ1 = (sEd (ga 7 μ) c h e (gi 13 μ) m).1 ∧ (m = -1 ∨ ∃ k, k < c ∧ m = nI k) ∧ ∀ k, bt (gi 14 μ1) k = true → bt (gi 15 μ1) k = true → False := by
  obtain ⟨hs, hB, hS, hO, hF, hl, hl0⟩ := hT
  obtain ⟨m, κ1, μ1, e1, e2, s1, o1, g1, mc, w1, w2, w3, w4, w5, w6, w7, w8, w9⟩ := pass_both N hN (b := 66) (by unfold Hb; omega) hs hs.st66 hB hS hO he hF hl hl0
  have hsb : Sb (ga 7 μ) (ga 7 μ1) := fun j hj => w4 j (by omega)
  have m13 : gi 13 μ1 = gi 13 μ := mc.1 13 (by unfold Ip; omega)
  refine ⟨m, κ1, μ1, e1, e2, ⟨hs.chg g1, ?_, s1, o1, ?_, ?_, ?_⟩, g1, mc, hsb, w1, w2, w6, w7, fun j j1 j2 => w4 j (by omega), w8, w5, w9⟩
  · exact (hB.chg g1 (by intro r z1 z2 z3; unfold Lp at z3; omega)).congr (fun j hj => (hsb j hj).symm)
  · exact hF.chg g1 (by intro r z1 z2 z3; unfold Lp at z3; omega) (mc.1 11 (by unfold Ip; omega)) (mc.2.1 1 (by unfold Rp; omega)) (mc.2.1 3 (by unfold Rp; omega)) (mc.2.1 4 (by unfold Rp; omega))
  · rw [w3, hl, m13]
  · rw [m13]; exact hl0
theorem Sb.refl (S : Nat → Int32) : Sb S S := fun _ _ => rfl
theorem Sb.trans {S T U : Nat → Int32} (h : Sb S T) (g : Sb T U) : Sb S U := fun j hj => (g j hj).trans (h j hj)
/-- a Book reads below 98 alone -/
theorem Bk.congr' {κ : Cz} {A : Nat → Nat} {b : Nat} {S T : Nat → Int32} (h : Bk κ A b S) (e : ∀ j, j < 98 → S j = T j) : Bk κ A b T := by
  obtain ⟨h1, h2, h3, h4, h5, h6, h7⟩ := h
  exact ⟨h1.trans (e _ (by omega)), h2.trans (e _ (by omega)), h3.trans (e _ (by omega)), h4.trans (e _ (by omega)), fun i hi => (h5 i hi).trans (e _ (by omega)), fun i hi => (h6 i hi).trans (e _ (by omega)), fun i hi => (h7 i hi).trans (e _ (by omega))⟩
theorem begS_c {S T : Nat → Int32} (e : ∀ i, i < 98 → S i = T i) (j : Nat) (hj : j < 98) : begS S j = begS T j := by
  unfold begS
  by_cases h1 : j = 10
  · rw [if_pos h1, if_pos h1]
  · rw [if_neg h1, if_neg h1]
    by_cases h2 : j = 11
    · rw [if_pos h2, if_pos h2, e 97 (by omega)]
    · rw [if_neg h2, if_neg h2]
      by_cases h3 : j = 12
      · rw [if_pos h3, if_pos h3]
      · rw [if_neg h3, if_neg h3]
        by_cases h4 : 13 ≤ j ∧ j < 23
        · rw [if_pos h4, if_pos h4, e _ (by omega)]
        · rw [if_neg h4, if_neg h4]
          by_cases h5 : 23 ≤ j ∧ j < 33
          · rw [if_pos h5, if_pos h5]
          · rw [if_neg h5, if_neg h5]
            by_cases h6 : 33 ≤ j ∧ j < 43
            · rw [if_pos h6, if_pos h6, e _ (by omega)]
            · rw [if_neg h6, if_neg h6, e _ hj]
