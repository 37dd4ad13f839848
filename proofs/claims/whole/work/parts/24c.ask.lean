/-! asking: how it is begun, gone on and ended -/
theorem ne10 : ¬ (1 : Int32) = 0 := by decide
theorem ite10 {P : Prop} [Decidable P] {α : Type} (x y : α) : (if (if P then (1 : Int32) else 0) = 0 then x else y) = if P then y else x := by
  by_cases h : P <;> simp [h]
def Iq (k : Nat) : Prop := k = 10 ∨ k = 14 ∨ k = 15
def Rq (k : Nat) : Prop := k = 7 ∨ (9 ≤ k ∧ k ≤ 16)
/-- what asking may change in the reference, before all is laid back -/
def Mq (μ μ1 : Mz) : Prop := (∀ k, ¬ Iq k → gi k μ1 = gi k μ) ∧ ∀ k, ¬ Rq k → ga k μ1 = ga k μ
theorem Mq.refl (μ : Mz) : Mq μ μ := ⟨fun _ _ => rfl, fun _ _ => rfl⟩
theorem Mq.trans {μ μ1 μ2 : Mz} (h : Mq μ μ1) (g : Mq μ1 μ2) : Mq μ μ2 := ⟨fun k hk => (g.1 k hk).trans (h.1 k hk), fun k hk => (g.2 k hk).trans (h.2 k hk)⟩
theorem MCh.mq {μ μ1 : Mz} (h : MCh Ip Rp μ μ1) : Mq μ μ1 := ⟨fun k hk => h.1 k hk, fun k hk => h.2.1 k (fun z => hk (Or.inl z))⟩
theorem Mq.row {μ : Mz} {k : Nat} (hk : Rq k) (f : Nat → Int32) : Mq μ (sa k f μ) := ⟨fun _ _ => rfl, fun j hj => ga_sa_ne (fun (z : j = k) => hj (by rw [z]; exact hk)) f μ⟩
theorem Mq.drw {μ : Mz} (k : Nat) (v : Int64) : Mq μ (sj k v μ) := ⟨fun _ _ => rfl, fun _ _ => rfl⟩
theorem Mq.i11 {μ μ1 : Mz} (h : Mq μ μ1) : gi 11 μ1 = gi 11 μ := h.1 11 (by unfold Iq; omega)
theorem Mq.i13 {μ μ1 : Mz} (h : Mq μ μ1) : gi 13 μ1 = gi 13 μ := h.1 13 (by unfold Iq; omega)
theorem Mq.a1 {μ μ1 : Mz} (h : Mq μ μ1) : ga 1 μ1 = ga 1 μ := h.2 1 (by unfold Rq; omega)
theorem Mq.a3 {μ μ1 : Mz} (h : Mq μ μ1) : ga 3 μ1 = ga 3 μ := h.2 3 (by unfold Rq; omega)
theorem Mq.a4 {μ μ1 : Mz} (h : Mq μ μ1) : ga 4 μ1 = ga 4 μ := h.2 4 (by unfold Rq; omega)
theorem Mq.qm {μ μ1 : Mz} (h : Mq μ μ1) (h7 : ga 7 μ1 = ga 7 μ) : QM μ μ1 := by
  have i : ∀ k, ¬ (k = 10 ∨ k = 14 ∨ k = 15) → gi k μ1 = gi k μ := h.1
  have r : ∀ k, ¬ (k = 7 ∨ (9 ≤ k ∧ k ≤ 16)) → ga k μ1 = ga k μ := h.2
  exact ⟨i _ (by omega), i _ (by omega), i _ (by omega), i _ (by omega), i _ (by omega), i _ (by omega), r _ (by omega), r _ (by omega), r _ (by omega), r _ (by omega), h7, r _ (by omega), r _ (by omega), r _ (by omega), r _ (by omega), r _ (by omega)⟩
theorem q_close {A : Nat → Nat} {κ κ1 : Cz} {μ μ1 : Mz} (hR : RelA A κ μ) (g : Ch A Dc κ κ1) (m : Mq μ μ1) (h7 : ga 7 μ1 = ga 7 μ) : RelA A κ1 μ1 := hR.ch g (m.qm h7)
theorem q_openS (N : Nat) {A : Nat → Nat} {κ : Cz} {μ : Mz} {c h e q n : Nat} (hR : RelA A κ μ) (hO : OkV (ga 7 μ) c h e q n) (hb : ga 7 μ 0 = 1) : ∃ κ1, p_ErrataRow_startFrom N (A 0) (A 29) κ = some κ1 ∧ Ch A Ds κ κ1 ∧ ∀ μ1, Mq μ μ1 → ga 7 μ1 = ga 7 μ → TR A κ1 μ1 c h e := by
  obtain ⟨κ1, e1, g1, s1, f1, rf⟩ := c_start N hR (Or.inl rfl) hR.wd.2.2.1
  refine ⟨κ1, e1, g1, fun μ1 m h7 => ?_⟩
  refine TR.mk hR (g1.mono Ds_Dc) (by rw [h7]; exact s1) (by rw [h7]; exact Sb.refl _) (by rw [h7]; exact hO.oks hb) (rf μ1 m.i11 m.a1 m.a3 m.a4) (by rw [f1, m.i13, hR.lf]) (fun _ => by rw [m.i13, hR.lf])
theorem q_open (N : Nat) {A : Nat → Nat} {κ : Cz} {μ : Mz} {c h e q n : Nat} (hR : RelA A κ μ) (hO : OkV (ga 7 μ) c h e q n) (hb : ga 7 μ 0 = 1) : ∃ κ1, p_ErrataRow_startFrom N (A 0) (A 29) κ = some κ1 ∧ Ch A Dc κ κ1 ∧ ∀ μ1, Mq μ μ1 → ga 7 μ1 = ga 7 μ → TR A κ1 μ1 c h e := by
  obtain ⟨κ1, e1, g1, t1⟩ := q_openS N hR hO hb
  exact ⟨κ1, e1, g1.mono Ds_Dc, t1⟩
theorem TR.fram {A : Nat → Nat} {κ κ1 : Cz} {μ μ1 : Mz} {c h e : Nat} (hT : TR A κ μ c h e) (g : Chg A (fun r => 70 ≤ r ∧ r ≤ 72) κ κ1) (m : Mq μ μ1) (h7 : ga 7 μ1 = ga 7 μ) : TR A κ1 μ1 c h e := by
  obtain ⟨hs, hB, hS, hO, hF, hl, hl0⟩ := hT
  refine ⟨hs.chg g, ?_, ?_, ?_, ?_, ?_, ?_⟩
  · rw [h7]; exact hB.chg g (fun r z1 z2 z3 => by omega)
  · rw [h7]; exact hS.chg g (fun r z1 z2 z3 => by omega)
  · rw [h7]; exact hO
  · exact hF.chg g (fun r z1 z2 z3 => by omega) m.i11 m.a1 m.a3 m.a4
  · rw [g.fi (by omega), hl, m.i13]
  · rw [m.i13]; exact hl0
theorem c_isLetter (N : Nat) {A : Nat → Nat} {κ : Cz} (hs : Sh κ A) (a : Int32) : p_ErrataRow_isLetter N (A 0) a κ = some (if 0 ≤ a ∧ a < fi κ (A 21) 2 then 1 else 0, κ) := by
  unfold p_ErrataRow_isLetter
  by_cases h0 : a < 0
  · rw [if_pos h0, if_neg (fun z => Int32.not_le.mpr h0 z.1)]
  · rw [if_neg h0]
    simp -implicitDefEqProofs only [hs.top, hs.w20, ck_1, bo_s]
    by_cases h1 : fi κ (A 21) 2 ≤ a
    · rw [if_pos h1, if_neg (fun z => Int32.not_lt.mpr h1 z.2)]
    · rw [if_neg h1, if_pos ⟨Int32.not_lt.mp h0, Int32.not_le.mp h1⟩]
/-- n editions on trial -/
theorem tr_go (N : Nat) (hN : 20000 ≤ N) {A : Nat → Nat} {c h e n : Nat} (hn : n ≤ 1000) (he : e ≤ 100000) {κ : Cz} {μ : Mz} (hT : TR A κ μ c h e) : ∃ (κ1 : Cz) (μ1 : Mz), p_ErrataRow_goOn N (A 0) (nI n) κ = some κ1 ∧ p12_passesAll N (nI n) μ = some μ1 ∧ TR A κ1 μ1 c h (e + n) ∧ Chg A (Lp 66) κ κ1 ∧ MCh Ip Rp μ μ1 ∧ Sb (ga 7 μ) (ga 7 μ1) ∧ ∀ j, 13 + c ≤ j → j < 23 → ga 7 μ1 j = ga 7 μ j := by
  have L := upL n (fun f i => ∀ (κ : Cz) (μ : Mz), TR A κ μ c h (e + i) → ∃ (κ1 : Cz) (μ1 : Mz), b_ErrataRow_goOn_2 N f (A 0) (nI n) (nI i) κ = some κ1 ∧ b12_passesAll_2 N f (nI n) (nI i) μ = some μ1 ∧ TR A κ1 μ1 c h (e + n) ∧ Chg A (Lp 66) κ κ1 ∧ MCh Ip Rp μ μ1 ∧ Sb (ga 7 μ) (ga 7 μ1) ∧ ∀ j, 13 + c ≤ j → j < 23 → ga 7 μ1 j = ga 7 μ j) (by
    intro f κ μ hT
    refine ⟨κ, μ, ?_, ?_, hT, Chg.refl _ _ _, MCh.refl _ _ _, Sb.refl _, fun _ _ _ => rfl⟩
    · rw [b_ErrataRow_goOn_2, if_pos (nI_le (Nat.le_refl n) (by omega))]
    · rw [b12_passesAll_2, if_pos (nI_le (Nat.le_refl n) (by omega))]) (by
    intro f i hi ih κ μ hT
    have hs := hT.1
    obtain ⟨m, κ1, μ1, e1, e2, hT1, g1, mc1, sb1, -, -, -, -, z1, -, -⟩ := tr_pass N (by omega) hT (by omega)
    obtain ⟨κ2, μ2, e3, e4, hT2, g2, mc2, sb2, z2⟩ := ih κ1 μ1 hT1
    refine ⟨κ2, μ2, ?_, ?_, hT2, g1.trans g2, mc1.trans mc2, sb1.trans sb2, fun j j1 j2 => (z2 j j1 j2).trans (z1 j j1 j2)⟩
    · rw [b_ErrataRow_goOn_2, if_neg (nI_ge hi (by omega))]
      simp -implicitDefEqProofs only [hs.top, hs.pr, ck_1, bo_s, bd_s, e1, lt_s9, nI_1]
      exact e3
    · rw [b12_passesAll_2, if_neg (nI_ge hi (by omega)), e2, bd_s, lt_s9, nI_1]
      exact e4) N 0 (by omega) (by omega) κ μ hT
  rw [nI_0] at L
  exact L
theorem upP (e : Nat) (P : Nat → Nat → Prop) (hx : ∀ n, P (n + 1) e) (hs : ∀ n i, i < e → P (n + 1) (i + 1) → P (n + 2) i) : ∀ (n i : Nat), i ≤ e → e < n + i → P n i := by
  intro n
  induction n with
  | zero => intro i h1 h2; exact absurd h2 (by omega)
  | succ n ih =>
    intro i h1 h2
    by_cases q : i = e
    · subst q; exact hx n
    · obtain ⟨m, rfl⟩ : ∃ m, n = m + 1 := ⟨n - 1, by omega⟩
      exact hs m i (by omega) (ih (i + 1) (by omega) (by omega))
/-- begun: the class's trial, the reference's state kept -/
theorem q_begin (N : Nat) (hN : 20000 ≤ N) {A : Nat → Nat} {κ : Cz} {μ : Mz} {c h e q n : Nat} (hR : RelA A κ μ) (hO : OkV (ga 7 μ) c h e q n) (hb : ga 7 μ 0 = 1) : ∃ κ1 μ1, p_ErrataRow_startFrom N (A 0) (A 29) κ = some κ1 ∧ p12_keeps N μ = some μ1 ∧ Ch A Dc κ κ1 ∧ TR A κ1 μ1 c h e ∧ Mq μ μ1 ∧ Kp μ1 (ga 7 μ) ∧ Sb (ga 7 μ) (ga 7 μ1) ∧ ga 7 μ1 = ga 7 μ := by
  obtain ⟨κ1, e1, g1, tr1⟩ := q_open N hR hO hb
  have m1 : Mq μ (sa 9 (kpF (ga 7 μ) (ga 9 μ) 33) μ) := Mq.row (by unfold Rq; omega) _
  have h7 : ga 7 (sa 9 (kpF (ga 7 μ) (ga 9 μ) 33) μ) = ga 7 μ := ga_sa_ne (by decide) _ _
  refine ⟨κ1, _, e1, m_keeps N (by omega) μ, g1, tr1 _ m1 h7, m1, ?_, ?_, h7⟩
  · intro k hk
    rw [ga_sa]
    exact if_pos hk
  · rw [h7]; exact Sb.refl _
theorem Kp.mc {μ μ1 : Mz} {S : Nat → Int32} (h : Kp μ S) (m : MCh Ip Rp μ μ1) : Kp μ1 S := by
  intro k hk
  rw [m.2.1 9 (by unfold Rp; omega)]
  exact h k hk
