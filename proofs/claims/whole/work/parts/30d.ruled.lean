/-! by which rule: ruled -/
theorem kit_eq (N : Nat) (hN : 20000 ≤ N) {A : Nat → Nat} {c h : Nat} : ∀ (n e : Nat) (κ κ' : Cz) (μ : Mz), n + e ≤ 2000 → TR A κ μ c h e → TR A κ' μ c h e → ∀ k, k < 10 → ai (Kit N A n κ) (A 67) k = ai (Kit N A n κ') (A 67) k
  | 0, e, κ, κ', μ, _, h1, h2, k, hk => (h1.2.2.1.2.2.2.1 k hk).trans (h2.2.2.1.2.2.2.1 k hk).symm
  | n + 1, e, κ, κ', μ, hn, h1, h2, k, hk => by
    obtain ⟨m, κ1, μ1, p1, p2, t1, -⟩ := tr_pass N (by omega) h1 (by omega)
    obtain ⟨m', κ1', μ1', p1', p2', t1', -⟩ := tr_pass N (by omega) h2 (by omega)
    have e1 : μ1' = μ1 := by
      have := Option.some.inj (p2'.symm.trans p2)
      exact congrArg Prod.snd this
    subst e1
    have := kit_eq N hN n (e + 1) κ1 κ1' μ1' (by omega) t1 t1' k hk
    rw [Kit, Kit, stepK_s p1, stepK_s p1']
    exact this
theorem soK_c {S : Nat → Int32} {A : Nat → Nat} {c nn n : Nat} {κ κ' : Cz} (hc : c ≤ 10) (hV : ∀ i, i < nn → NtV S c i) (e : ∀ k, k < 10 → ai κ (A 67) k = ai κ' (A 67) k) : soK S A nn n κ ↔ soK S A nn n κ' := by
  unfold soK
  constructor
  · intro h i hi h4
    obtain ⟨-, ⟨l, l1, l2⟩, -⟩ := hV i hi
    have := h i hi h4
    rw [l2, clN (by omega)] at this ⊢
    rw [← e l (by omega)]; exact this
  · intro h i hi h4
    obtain ⟨-, ⟨l, l1, l2⟩, -⟩ := hV i hi
    have := h i hi h4
    rw [l2, clN (by omega)] at this ⊢
    rw [e l (by omega)]; exact this
/-- the r-th, none ahead of 0 -/
def frI (r : Nat) : Int32 := if r = 0 then -1 else nI (r - 1)
theorem frI_pred (r : Nat) : nI r - 1 = frI r := by
  unfold frI
  by_cases z : r = 0
  · subst z; decide
  · obtain ⟨m, rfl⟩ : ∃ m, r = m + 1 := ⟨r - 1, by omega⟩
    rw [if_neg z, sub1]
    rfl
theorem frI_fo {r R : Nat} {μ : Mz} (hR6 : R ≤ 6) (hR : gi 1 μ = nI R) (hr : r ≤ R) : Fo (frI r) (gi 1 μ) := by
  unfold frI
  by_cases z : r = 0
  · rw [if_pos z]; exact Or.inl rfl
  · rw [if_neg z]
    exact Or.inr ⟨r - 1, by omega, rfl, by rw [hR]; exact nI_lt (by omega) (by omega)⟩
/-- the reference is ready for the rule f -/
def Rdy (μ0 μ : Mz) (f : Int32) : Prop := gi 11 μ = f ∧ gi 13 μ = -1 ∧ ga 1 μ = ga 1 μ0 ∧ ga 3 μ = ga 3 μ0 ∧ ga 4 μ = ga 4 μ0 ∧ ga 7 μ = begS (ga 7 μ0)
theorem ru_start (N : Nat) {A : Nat → Nat} {κ : Cz} {μ0 : Mz} {c h e q nn : Nat} (hR : RelA A κ μ0) (hO : OkV (ga 7 μ0) c h e q nn) (hb : ga 7 μ0 0 = 1) {f : Int32} (hf : Fo f (gi 1 μ0)) : ∃ κ1, p_ErrataRow_startByRule N (A 0) f κ = some κ1 ∧ Ch A Ds κ κ1 ∧ ∀ μ, Rdy μ0 μ f → TR A κ1 μ c h 0 := by
  have hs := hR.sh
  obtain ⟨κ0, κ1, e0, hs0, e1, g1, s1, f1, rf⟩ := c_startAs N hR hf (Or.inr rfl) hR.wd.2.1
  refine ⟨κ1, ?_, g1, fun μ hm => ?_⟩
  · unfold p_ErrataRow_startByRule
    simp -implicitDefEqProofs only [hs.top, ck_1, e0, bo_s, hs0.top, hs0.w20, hs0.tr, e1]
  · obtain ⟨m1, m2, m3, m4, m5, m6⟩ := hm
    exact TR.mk hR (g1.mono Ds_Dc) (by rw [m6]; exact s1) (by rw [m6]; exact begS_o _) (by rw [m6]; exact (hO.oks hb).beg) (rf μ m1 m3 m4 m5) (by rw [f1, m2]) (fun _ => m2)
def FT (N : Nat) (A : Nat → Nat) (κ : Cz) (r : Nat) : Bool := match p_ErrataRow_startByRule N (A 0) (frI r) κ with
  | some κ1 => (match p_ErrataRow_areNotesSo N (A 0) κ1 with
    | some (v, _) => decide (v = 1)
    | none => false)
  | none => false
def VLs (N : Nat) (A : Nat → Nat) (κ : Cz) (r t k : Nat) : Int32 := match p_ErrataRow_startByRule N (A 0) (frI r) κ with
  | some κ1 => ai (Kit N A (t + 1) κ1) (A 67) k
  | none => 0
theorem b_1 (b : Bool) : decide ((if b = true then (1 : Int32) else 0) = 1) = b := by cases b <;> decide
theorem rdy0 (μ0 : Mz) (hl : gi 13 μ0 = -1) (f : Int32) : Rdy μ0 (si 11 f (sa 7 (begS (ga 7 μ0)) μ0)) f := ⟨gi_si _ _ _, by rw [gi_si_ne (by decide), gi_sa]; exact hl, by rw [ga_si, ga_sa_ne (by decide)], by rw [ga_si, ga_sa_ne (by decide)], by rw [ga_si, ga_sa_ne (by decide)], by rw [ga_si, ga_sa]⟩
theorem ft_spec (N : Nat) (hN : 20000 ≤ N) {A : Nat → Nat} {κ : Cz} {μ0 : Mz} {c h e q nn R r : Nat} (hR : RelA A κ μ0) (hO : OkV (ga 7 μ0) c h e q nn) (hb : ga 7 μ0 0 = 1) (hR6 : R ≤ 6) (hRR : gi 1 μ0 = nI R) (hr : r ≤ R) : ∃ κ1, p_ErrataRow_startByRule N (A 0) (frI r) κ = some κ1 ∧ Ch A Ds κ κ1 ∧ (∀ μ, Rdy μ0 μ (frI r) → TR A κ1 μ c h 0) ∧ (FT N A κ r = true ↔ ∀ n, n ≤ 60 → soK (ga 7 μ0) A nn n (Kit N A (n + 1) κ1)) ∧ ∀ t k, VLs N A κ r t k = ai (Kit N A (t + 1) κ1) (A 67) k := by
  obtain ⟨κ1, e1, g1, t1⟩ := ru_start N hR hO hb (frI_fo hR6 hRR hr)
  have hV : ∀ i, i < nn → NtV (ga 7 μ0) c i := hO.2.2.2.2.2.2.2.2.2.2.2.2.2.2
  have hnn : nn ≤ 10 := hO.2.2.2.2.2.2.2.2.2.2.2.2.1
  obtain ⟨b, κ2, b1, b2, b3⟩ := c_areNotesSo N hN (t1 _ (rdy0 μ0 hR.lf _)) (by omega) hnn ((hR.nc hO).ch g1 (fun r z1 z2 z3 => by unfold Ds at z3; omega)) hV
  refine ⟨κ1, e1, g1, t1, ?_, fun t k => ?_⟩
  · have : FT N A κ r = b := by
      unfold FT
      rw [e1]
      simp only [b2, b_1]
    rw [this]
    exact b1
  · unfold VLs
    rw [e1]
/-- the class, at any heap that stands for the same -/
theorem ft_class (N : Nat) (hN : 20000 ≤ N) {A : Nat → Nat} {κ κ' : Cz} {μ0 : Mz} {c h e q nn R r : Nat} (hR : RelA A κ μ0) (hR' : RelA A κ' μ0) (hO : OkV (ga 7 μ0) c h e q nn) (hb : ga 7 μ0 0 = 1) (hR6 : R ≤ 6) (hRR : gi 1 μ0 = nI R) (hr : r ≤ R) : ∃ κ1 κ2, p_ErrataRow_startByRule N (A 0) (frI r) κ' = some κ1 ∧ Sh κ1 A ∧ p_ErrataRow_areNotesSo N (A 0) κ1 = some (if FT N A κ r = true then 1 else 0, κ2) ∧ Ch A (fun r => Ds r ∨ Lp 66 r) κ' κ2 := by
  obtain ⟨κ1, e1, g1, t1, f1, v1⟩ := ft_spec N hN hR hO hb hR6 hRR hr
  obtain ⟨κ1', e1', g1', t1', f1', v1'⟩ := ft_spec N hN hR' hO hb hR6 hRR hr
  have hV : ∀ i, i < nn → NtV (ga 7 μ0) c i := hO.2.2.2.2.2.2.2.2.2.2.2.2.2.2
  have hnn : nn ≤ 10 := hO.2.2.2.2.2.2.2.2.2.2.2.2.1
  have hT := t1' _ (rdy0 μ0 hR.lf _)
  obtain ⟨b, κ2, b1, b2, b3⟩ := c_areNotesSo N hN hT (by omega) hnn ((hR'.nc hO).ch g1' (fun r z1 z2 z3 => by unfold Ds at z3; omega)) hV
  have eb : b = FT N A κ r := by
    have h1 : b = true ↔ FT N A κ r = true := b1.trans (Iff.trans ⟨fun z n hn => (soK_c hO.1 hV (kit_eq N hN (n + 1) 0 κ1' κ1 _ (by omega) hT (t1 _ (rdy0 μ0 hR.lf _)))).mp (z n hn), fun z n hn => (soK_c hO.1 hV (kit_eq N hN (n + 1) 0 κ1' κ1 _ (by omega) hT (t1 _ (rdy0 μ0 hR.lf _)))).mpr (z n hn)⟩ f1.symm)
    cases b <;> cases hf : FT N A κ r <;> simp_all
  rw [eb] at b2
  exact ⟨κ1', κ2, e1', hT.1, b2, (g1'.mono (fun r z => Or.inl z)).trans (b3.ch.mono (fun r z => Or.inr z))⟩
theorem DsLp (r : Nat) (h : Ds r ∨ Lp 66 r) : Dc r := h.elim (Ds_Dc r) (Dc_Lp r)
/-- what the reference may change, the rule in force too -/
def Mr (μ μ1 : Mz) : Prop := (∀ k, ¬ Iq k → k ≠ 11 → gi k μ1 = gi k μ) ∧ ∀ k, ¬ Rq k → ga k μ1 = ga k μ
theorem Mq.mr {μ μ1 : Mz} (h : Mq μ μ1) : Mr μ μ1 := ⟨fun k h1 _ => h.1 k h1, h.2⟩
theorem Mr.trans {μ μ1 μ2 : Mz} (h : Mr μ μ1) (g : Mr μ1 μ2) : Mr μ μ2 := ⟨fun k h1 h2 => (g.1 k h1 h2).trans (h.1 k h1 h2), fun k hk => (g.2 k hk).trans (h.2 k hk)⟩
theorem Mr.s11 (μ : Mz) (v : Int32) : Mr μ (si 11 v μ) := ⟨fun k _ h => gi_si_ne h _ _, fun _ _ => rfl⟩
theorem nar_b (b : Bool) : vp_nar .boolean (if b = true then 1 else 0) = if b = true then 1 else 0 := by cases b <;> decide
theorem begS_sb {S T : Nat → Int32} (h : Sb S T) : begS T = begS S := by
  funext j
  by_cases z : 10 ≤ j ∧ j < 43
  · exact begS_b h j z.1 z.2
  · rw [begS_o T j (by omega), begS_o S j (by omega)]
    exact h j (by omega)
theorem m_fillsFits (N : Nat) (hN : 20000 ≤ N) {A : Nat → Nat} {κ : Cz} {μ0 : Mz} {c h e q nn R : Nat} (hR : RelA A κ μ0) (hO : OkV (ga 7 μ0) c h e q nn) (hb : ga 7 μ0 0 = 1) (hR6 : R ≤ 6) (hRR : gi 1 μ0 = nI R) {t : Nat} (ht : t ≤ 60) : ∃ μ1, p12_fillsFits N (nI t) μ0 = some μ1 ∧ QM μ0 μ1 ∧ (∀ r, r ≤ R → ga 15 μ1 r = if FT N A κ r = true then 1 else 0) ∧ ∀ r, r ≤ R → ∀ k, k < c → ga 16 μ1 (10 * r + k) = VLs N A κ r t k := by
  have hV : ∀ i, i < nn → NtV (ga 7 μ0) c i := hO.2.2.2.2.2.2.2.2.2.2.2.2.2.2
  have hnn : nn ≤ 10 := hO.2.2.2.2.2.2.2.2.2.2.2.2.1
  have hc10 : c ≤ 10 := hO.1
  have h128 : ga 7 μ0 128 = nI nn := hO.2.2.2.2.2.2.2.2.2.2.2.2.2.1
  have L := upL (R + 1) (fun f i => ∀ (μ : Mz), Mr μ0 μ → Sb (ga 7 μ0) (ga 7 μ) → Kp μ (ga 7 μ0) → (∀ r, r < i → ga 15 μ r = if FT N A κ r = true then 1 else 0) → (∀ r, r < i → ∀ k, k < c → ga 16 μ (10 * r + k) = VLs N A κ r t k) → ∃ μ1, b12_fillsFits_11 N f (nI t) (gi 11 μ0) (nI i) μ = some μ1 ∧ QM μ0 μ1 ∧ (∀ r, r ≤ R → ga 15 μ1 r = if FT N A κ r = true then 1 else 0) ∧ ∀ r, r ≤ R → ∀ k, k < c → ga 16 μ1 (10 * r + k) = VLs N A κ r t k) (by
    intro f μ m sb hK h15 h16
    have g1 : gi 1 μ = nI R := (m.1 1 (by unfold Iq; omega) (by decide)).trans hRR
    have elb := m_back N (by omega) (μ := si 11 (gi 11 μ0) μ) (S := ga 7 μ0) (hK.mq (ga_si _ _ _ _)) sb
    rw [b12_fillsFits_11, g1, if_pos (nI_lt (by omega) (by omega)), lt_s9, elb, bo_s]
    refine ⟨_, rfl, ?_, fun r hr => ?_, fun r hr k hk => ?_⟩
    · have m2 : Mq μ0 (sa 7 (ga 7 μ0) (si 11 (gi 11 μ0) μ)) := by
        refine ⟨fun k hk => ?_, fun k hk => ?_⟩
        · rw [gi_sa]
          by_cases z : k = 11
          · subst z; rw [gi_si]
          · rw [gi_si_ne z]; exact m.1 k hk z
        · rw [ga_sa_ne (fun z => hk (Or.inl z)), ga_si]; exact m.2 k hk
      exact m2.qm (ga_sa _ _ _)
    · rw [ga_sa_ne (by decide), ga_si]; exact h15 r (by omega)
    · rw [ga_sa_ne (by decide), ga_si]; exact h16 r (by omega) k hk) (by
    intro f i hi ih μ m sb hK h15 h16
    have g1 : gi 1 μ = nI R := (m.1 1 (by unfold Iq; omega) (by decide)).trans hRR
    obtain ⟨κ1, e1, gk, t1, f1, v1⟩ := ft_spec N hN hR hO hb hR6 hRR (show i ≤ R by omega)
    have ebg := m_begins N hN (si 11 (frI i) μ)
    rw [ga_si, begS_sb sb] at ebg
    have hrd : Rdy μ0 (sa 7 (begS (ga 7 μ0)) (si 11 (frI i) μ)) (frI i) := ⟨by rw [gi_sa, gi_si], by rw [gi_sa, gi_si_ne (by decide)]; exact (m.1 13 (by unfold Iq; omega) (by decide)).trans hR.lf, by rw [ga_sa_ne (by decide), ga_si]; exact m.2 1 (by unfold Rq; omega), by rw [ga_sa_ne (by decide), ga_si]; exact m.2 3 (by unfold Rq; omega), by rw [ga_sa_ne (by decide), ga_si]; exact m.2 4 (by unfold Rq; omega), ga_sa _ _ _⟩
    have hT := t1 _ hrd
    have b0 := begS_o (ga 7 μ0)
    obtain ⟨b, μ3, q1, q2, q3, q4, q5, q6, q7, q8, q9⟩ := m_areAllSo N hN (A := A) (S := ga 7 μ0) (c := c) (h := h) (e := 0) (nn := nn) (r := i) (by omega) hnn hV (by omega) (nI t) N 0 (by omega) (by omega) κ1 _ true hT (by rw [ga_sa, b0 _ (by omega)]; exact h128) (fun j z1 z2 => by rw [ga_sa, b0 _ (by omega)])
    have eb : b = FT N A κ i := by
      have h1 : b = true ↔ FT N A κ i = true := q1.trans (Iff.trans ⟨fun z n hn => z.2 n (by omega) hn, fun z => ⟨rfl, fun n _ hn => z n hn⟩⟩ f1.symm)
      cases b <;> cases hf : FT N A κ i <;> simp_all
    subst eb
    rw [nI_0, if_pos (show true = true from rfl)] at q2
    have q2' : p12_areAllSo N (nI i) (nI t) (sa 7 (begS (ga 7 μ0)) (si 11 (frI i) μ)) = some (if FT N A κ i = true then 1 else 0, μ3) := q2
    rw [b12_fillsFits_11, g1, if_neg (nI_nlt (show i ≤ R by omega) (by omega)), lt_s9, frI_pred, ebg, bo_s, q2', bd_s, inbT (show i < 7 by omega) (by decide), ck_1, lt_s9, nar_b, lt_s9, nI_1, clN (show i < 2147483648 by omega)]
    rw [ga_sa] at q4
    have e16 : ga 16 (sa 7 (begS (ga 7 μ0)) (si 11 (frI i) μ)) = ga 16 μ := by rw [ga_sa_ne (by decide), ga_si]
    have e15 : ga 15 μ3 = ga 15 μ := by rw [q6, ga_sa_ne (by decide), ga_si]
    have e9 : ga 9 μ3 = ga 9 μ := by rw [q5, ga_sa_ne (by decide), ga_si]
    refine ih _ ?_ ?_ ?_ ?_ ?_
    · exact (m.trans ((Mr.s11 μ _).trans ((Mq.row (k := 7) (Or.inl rfl) _).mr))).trans (q3.mr.trans (Mq.row (k := 15) (by unfold Rq; omega) _).mr)
    · rw [ga_sa_ne (by decide)]
      intro j hj
      rw [q4 j hj, b0 j hj]
    · exact (hK.mq e9).mq (ga_sa_ne (by decide) _ _)
    · intro r hr
      rw [ga_sa, upd_at, e15]
      by_cases z : r = i
      · rw [if_pos z, z]
      · rw [if_neg z]; exact h15 r (by omega)
    · intro r hr k hk
      rw [ga_sa_ne (by decide)]
      by_cases z : r = i
      · subst z
        rw [v1, q9 t rfl (by omega) ht k hk]
        rfl
      · rw [q7 _ (fun k2 y1 => by omega), e16]
        exact h16 r (by omega) k hk) N 0 (by omega) (by omega) (sa 9 (kpF (ga 7 μ0) (ga 9 μ0) 33) μ0) (Mq.row (by unfold Rq; omega) _).mr (by rw [ga_sa_ne (by decide)]; exact Sb.refl _) (by
      intro k hk
      rw [ga_sa]
      exact if_pos hk) (fun r hr => absurd hr (by omega)) (fun r hr => absurd hr (by omega))
  rw [nI_0] at L
  unfold p12_fillsFits
  rw [lt_s9, m_keeps N (by omega) μ0, bo_s]
  exact L
theorem sm_ruled (N : Nat) (hN : 20000 ≤ N) (x0 : Nat) : Sm_ruled N x0 (Rel x0) := by
  rintro κ μ a1 ⟨A, rfl, hR⟩
  have hs := hR.sh
  obtain ⟨c, h, e, q, nn, hO⟩ := hR.ok
  have h0 : fi κ (A 21) 0 = ga 7 μ 0 := hR.wd.1.1
  obtain ⟨R, r1, r2, r3, r4⟩ := hR.rl
  unfold p_ErrataRow_ruled p12_ruled
  simp -implicitDefEqProofs only [hs.top, hs.w20, ck_1, bo_s, bd_s, c_within, m_in N a1 0 1 0 1 (by decide) (by decide), m_isBook, h0, ite10, lt_s9, r2]
  rcases told_or hO with hb | hb
  · simp only [hb, ne10, if_true, if_false]
    by_cases hw : 0 ≤ a1 ∧ a1 ≤ 1
    · rw [if_pos hw, if_pos hw]
      obtain ⟨μ1, p1, qm, f15, -⟩ := m_fillsFits N hN hR hO hb r1 r3 (t := 0) (by omega)
      have p1' : p12_fillsFits N 0 μ = some μ1 := p1
      rw [p1', bo_s, show gi 1 μ1 = nI R from qm.2.1.trans r3]
      have D : ∀ (m : Nat), m ≤ R + 1 → ∀ (f : Nat), m < f → ∀ (κ' : Cz) (x y : Int32), RelA A κ' μ → ∃ (r : Int32) (κ2 : Cz), b_ErrataRow_ruled_38 N f (A 0) a1 x y (if m = 0 then -2 else frI (m - 1)) κ' = some (r, κ2) ∧ b12_ruled_36 N f a1 x y (if m = 0 then -1 else nI (m - 1)) μ1 = some (r, μ1) ∧ RelA A κ2 μ := by
        intro m
        induction m with
        | zero =>
          intro _ f hf κ' x y hR'
          obtain ⟨f, rfl⟩ : ∃ g, f = g + 1 := ⟨f - 1, by omega⟩
          rw [if_pos rfl, if_pos rfl, b_ErrataRow_ruled_38, b12_ruled_36, if_pos (show (-2 : Int32) < -1 by decide), if_pos (show (-1 : Int32) < 0 by decide)]
          by_cases z : a1 = 0
          · rw [if_pos z, if_pos z]; exact ⟨_, κ', rfl, rfl, hR'⟩
          · rw [if_neg z, if_neg z]; exact ⟨_, κ', rfl, rfl, hR'⟩
        | succ m ih =>
          intro hm f hf κ' x y hR'
          obtain ⟨f, rfl⟩ : ∃ g, f = g + 1 := ⟨f - 1, by omega⟩
          have hs' := hR'.sh
          obtain ⟨κ1, κ2, e1, s1, e2, g2⟩ := ft_class N hN hR hR' hO hb r1 r3 (show m ≤ R by omega)
          have hR2 : RelA A κ2 μ := hR'.ch (g2.mono DsLp) (QM.refl μ)
          have ec : frI m + (-1) = if m = 0 then -2 else frI (m - 1) := by
            by_cases z : m = 0
            · subst z; decide
            · rw [if_neg z]
              unfold frI
              rw [if_neg z]
              by_cases z2 : m = 1
              · subst z2; decide
              · obtain ⟨g, rfl⟩ : ∃ g, m = g + 2 := ⟨m - 2, by omega⟩
                rw [if_neg (by omega), show g + 2 - 1 = g + 1 by omega, pk_m1]
                rfl
          have em : nI m + (-1) = if m = 0 then -1 else nI (m - 1) := by
            by_cases z : m = 0
            · subst z; decide
            · obtain ⟨g, rfl⟩ : ∃ g, m = g + 1 := ⟨m - 1, by omega⟩
              rw [if_neg z, pk_m1]
              rfl
          have hge : ¬ frI m < -1 := by
            unfold frI
            by_cases z : m = 0
            · rw [if_pos z]; decide
            · rw [if_neg z]
              exact fun y => nI_pos (show m - 1 < 2 ^ 31 by omega) (Int32.lt_trans y (by decide))
          rw [if_neg (by omega), if_neg (by omega), Nat.add_sub_cancel, b_ErrataRow_ruled_38, b12_ruled_36, if_neg hge, if_neg (nI_pos (by omega)), inbT (show m < 7 by omega) (by decide), ck_1, clN (show m < 2147483648 by omega), f15 m (by omega), ite10, frI_pred]
          simp -implicitDefEqProofs only [hs'.top, s1.top, ck_1, bo_s, e1, e2, bd_s, ite10, lt_s9, ec, em]
          by_cases z : FT N A κ m = true
          · rw [if_pos z, if_pos z]
            exact ih (by omega) f (by omega) κ2 _ _ hR2
          · rw [if_neg z, if_neg z]
            exact ih (by omega) f (by omega) κ2 _ _ hR2
      obtain ⟨r, κ2, q1, q2, hR2⟩ := D (R + 1) (by omega) N (by omega) κ 0 (-2) hR
      rw [if_neg (by omega), Nat.add_sub_cancel] at q1 q2
      rw [frI_pred]
      exact ⟨r, κ2, μ1, q1, q2, A, rfl, hR2.ch (Ch.refl _ _ _) qm⟩
    · rw [if_neg hw, if_neg hw]
      exact ⟨-3, κ, μ, rfl, rfl, A, rfl, hR⟩
  · simp only [hb, ne01, if_true, if_false]
    exact ⟨-3, κ, μ, rfl, rfl, A, rfl, hR⟩
