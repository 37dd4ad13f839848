/-! an act is kept: wasSaid and the History -/
theorem wck_1 (x : Prop) : wck true x = x := propext ⟨fun h => h.2, fun h => ⟨rfl, h⟩⟩
theorem wbo_s {α : Type} (a : α) (f : α → Prop) : wbo (some a) f = f a := propext ⟨fun ⟨b, h1, h2⟩ => by cases h1; exact h2, fun h => ⟨a, rfl, h⟩⟩
theorem wbd_s {α β : Type} (a : α) (b : β) (f : α → β → Prop) : wbd (some (a, b)) f = f a b := propext ⟨fun ⟨c, d, h1, h2⟩ => by cases h1; exact h2, fun h => ⟨a, b, rfl, h⟩⟩
theorem wlt_s {α : Type} (v : α) (f : α → Prop) : wlt v f = f v := rfl
theorem woc_s {α : Type} (a : α) (e : Prop) (f : α → Prop) : woc (some a) e f = f a := propext ⟨fun h => h.2 a rfl, fun h => ⟨fun z => (nomatch z), fun b z => by cases z; exact h⟩⟩
theorem woc_n {α : Type} (e : Prop) (f : α → Prop) : woc none e f = e := propext ⟨fun h => h.1 rfl, fun h => ⟨fun _ => h, fun b z => (nomatch z)⟩⟩
theorem wif_y {c : Prop} (h : c) (x y : Prop) : wif c x y = x := propext ⟨fun z => z.1 h, fun z => ⟨fun _ => z, fun n => absurd h n⟩⟩
theorem wif_n {c : Prop} (h : ¬ c) (x y : Prop) : wif c x y = y := propext ⟨fun z => z.2 h, fun z => ⟨fun n => absurd n h, fun _ => z⟩⟩
theorem wif10 {P : Prop} [Decidable P] (x y : Prop) : wif ((if P then (1 : Int32) else 0) = 0) x y = if P then y else x := by
  by_cases h : P
  · rw [if_pos h, if_pos h, wif_n ne10]
  · rw [if_neg h, if_neg h, wif_y rfl]
/-- the reference: a state is kept behind u others -/
def kaF (S W : Nat → Int32) (u i k : Nat) : Int32 := if 33 * u ≤ k ∧ k < 33 * u + i then S (10 + (k - 33 * u)) else W k
theorem kaF_s (S W : Nat → Int32) (u i : Nat) : upd (kaF S W u i) (33 * u + i) (S (10 + i)) = kaF S W u (i + 1) := by
  funext k
  rw [upd_at]
  unfold kaF
  by_cases h : k = 33 * u + i
  · rw [if_pos h, if_pos (by omega), h, Nat.add_sub_cancel_left]
  · rw [if_neg h]
    by_cases h2 : 33 * u ≤ k ∧ k < 33 * u + i
    · rw [if_pos h2, if_pos (by omega)]
    · rw [if_neg h2, if_neg (by omega)]
def shF (W : Nat → Int32) (i k : Nat) : Int32 := if k + 33 < i then W (k + 33) else W k
theorem shF_s (W : Nat → Int32) {i : Nat} (hi : 33 ≤ i) : upd (shF W i) (i - 33) (shF W i i) = shF W (i + 1) := by
  funext k
  rw [upd_at]
  unfold shF
  by_cases h : k = i - 33
  · rw [if_pos h, if_neg (by omega), if_pos (by omega)]
    congr 1
    omega
  · rw [if_neg h]
    by_cases h2 : k + 33 < i
    · rw [if_pos h2, if_pos (by omega)]
    · rw [if_neg h2, if_neg (by omega)]
def K16 (k : Nat) : Prop := k = 16
def K8 (k : Nat) : Prop := k = 8
theorem m_keep52 (N : Nat) (hN : 20000 ≤ N) (μ : Mz) {u : Nat} (hu : gi 16 μ = nI u) (hu2 : u < 20) : b12_keepsAct_52 N N 0 μ = some (si 16 (nI (u + 1)) (sa 8 (kaF (ga 7 μ) (ga 8 μ) u 33) μ)) := by
  have L := upL 33 (fun n i => b12_keepsAct_52 N n (nI i) (sa 8 (kaF (ga 7 μ) (ga 8 μ) u i) μ) = some (si 16 (nI (u + 1)) (sa 8 (kaF (ga 7 μ) (ga 8 μ) u 33) μ))) (by
    intro n
    show b12_keepsAct_52 N (n + 1) (nI 33) (sa 8 (kaF (ga 7 μ) (ga 8 μ) u 33) μ) = _
    rw [b12_keepsAct_52, if_pos (show (33 : Int32) ≤ nI 33 from nI_le (a := 33) (b := 33) (by omega) (by omega)), lt_s9, gi_sa, hu, nI_1]) (by
    intro n i hi ih
    show b12_keepsAct_52 N (n + 1) (nI i) (sa 8 (kaF (ga 7 μ) (ga 8 μ) u i) μ) = _
    have e33 : (33 : Int32) * nI u + nI i = nI (33 * u + i) := by rw [show (33 : Int32) = nI 33 from rfl, pk_mul, nI_add]
    rw [b12_keepsAct_52, gi_sa, hu, e33, if_neg (show ¬ (33 : Int32) ≤ nI i from nI_ge (b := 33) hi (by omega)), show (10 : Int32) = nI 10 from rfl, nI_add]
    simp only [lt_s9, ck_1, inbT (show 10 + i < 129 by omega) (by decide), inbT (show 33 * u + i < 660 by omega) (by decide), clN (show 10 + i < 2147483648 by omega), clN (show 33 * u + i < 2147483648 by omega), ga_sa, ga_sa_ne (show 7 ≠ 8 by decide), sa_sa, kaF_s, nI_1]
    exact ih) N 0 (by omega) (by omega)
  have e : sa 8 (kaF (ga 7 μ) (ga 8 μ) u 0) μ = μ := by
    have : kaF (ga 7 μ) (ga 8 μ) u 0 = ga 8 μ := by
      funext k
      unfold kaF
      rw [if_neg (by omega)]
    rw [this, sa_ga]
  rw [e, nI_0] at L
  exact L
theorem m_keep12 (N : Nat) (hN : 20000 ≤ N) (μ : Mz) (hu : gi 16 μ = nI 20) : b12_keepsAct_12 N N 33 μ = some (si 16 (nI 20) (sa 8 (kaF (ga 7 μ) (shF (ga 8 μ) 660) 19 33) μ)) := by
  have L := upL 660 (fun n i => 33 ≤ i → b12_keepsAct_12 N n (nI i) (sa 8 (shF (ga 8 μ) i) μ) = some (si 16 (nI 20) (sa 8 (kaF (ga 7 μ) (shF (ga 8 μ) 660) 19 33) μ))) (by
    intro n _
    have h1 := m_keep52 N hN (si 16 (nI 19) (sa 8 (shF (ga 8 μ) 660) μ)) (u := 19) (gi_si _ _ _) (by omega)
    rw [b12_keepsAct_12, if_pos (show (660 : Int32) ≤ nI 660 from nI_le (a := 660) (b := 660) (by omega) (by omega)), lt_s9, gi_sa, hu, show nI 20 - 1 = nI 19 from sub1 19, h1]
    simp only [ga_si, ga_sa, ga_sa_ne (show 7 ≠ 8 by decide)]
    rw [← si_sa, si_si, sa_sa]) (by
    intro n i hi ih h33
    have e33 : nI i - 33 = nI (i - 33) := pk_sub (b := 33) h33
    rw [b12_keepsAct_12, if_neg (show ¬ (660 : Int32) ≤ nI i from nI_ge (b := 660) hi (by omega)), e33]
    simp only [lt_s9, ck_1, inbT (show i < 660 by omega) (by decide), inbT (show i - 33 < 660 by omega) (by decide), clN (show i < 2147483648 by omega), clN (show i - 33 < 2147483648 by omega), ga_sa, sa_sa, shF_s _ h33, nI_1]
    exact ih (by omega)) N 33 (by omega) (by omega) (by omega)
  have e : sa 8 (shF (ga 8 μ) 33) μ = μ := by
    have : shF (ga 8 μ) 33 = ga 8 μ := by
      funext k
      unfold shF
      rw [if_neg (by omega)]
    rw [this, sa_ga]
  rw [e] at L
  exact L
theorem m_keepsAct (N : Nat) (hN : 20000 ≤ N) (μ : Mz) {u : Nat} (hu : gi 16 μ = nI u) (hu2 : u ≤ 20) : ∃ μ1, p12_keepsAct N μ = some μ1 ∧ MCh K16 K8 μ μ1 ∧ gi 16 μ1 = nI (min (u + 1) 20) ∧ ∀ j q, j < min (u + 1) 20 → 10 ≤ q → q < 43 → hsS μ1 j q = if j + 1 < min (u + 1) 20 then hsS μ (if u = 20 then j + 1 else j) q else ga 7 μ q := by
  unfold p12_keepsAct
  by_cases h20 : u = 20
  · subst h20
    rw [hu, if_pos (by decide), m_keep12 N hN μ hu]
    refine ⟨_, rfl, ⟨fun k hk => by rw [gi_si_ne hk, gi_sa], fun k hk => by rw [ga_si, ga_sa_ne hk], fun k => rfl⟩, by rw [gi_si]; rfl, ?_⟩
    intro j q hj h1 h2
    show ga 8 (si 16 (nI 20) (sa 8 _ μ)) (33 * j + (q - 10)) = _
    rw [ga_si, ga_sa]
    unfold kaF hsS shF
    by_cases hl : j + 1 < min (20 + 1) 20
    · rw [if_pos hl, if_neg (by omega), if_pos (by omega), if_pos rfl, show 33 * j + (q - 10) + 33 = 33 * (j + 1) + (q - 10) by omega]
    · rw [if_neg hl, if_pos (by omega), show 10 + (33 * j + (q - 10) - 33 * 19) = q by omega]
  · rw [hu, if_neg (show ¬ nI u = 20 from fun z => h20 ((nI_eq (b := 20) (by omega) (by omega)).mp z)), m_keep52 N hN μ hu (by omega)]
    refine ⟨_, rfl, ⟨fun k hk => by rw [gi_si_ne hk, gi_sa], fun k hk => by rw [ga_si, ga_sa_ne hk], fun k => rfl⟩, by rw [gi_si, Nat.min_eq_left (by omega)], ?_⟩
    intro j q hj h1 h2
    show ga 8 (si 16 (nI (u + 1)) (sa 8 _ μ)) (33 * j + (q - 10)) = _
    rw [ga_si, ga_sa, if_neg h20]
    unfold kaF hsS
    by_cases hl : j + 1 < min (u + 1) 20
    · rw [if_pos hl, if_neg (by omega)]
    · rw [if_neg hl, if_pos (by omega), show 10 + (33 * j + (q - 10) - 33 * u) = q by omega]
theorem StV.congr {S T : Nat → Int32} (h : StV S) (e : ∀ j, 10 ≤ j → j < 43 → S j = T j) : StV T := by
  obtain ⟨⟨ee, h1, h2⟩, h3, h4⟩ := h
  refine ⟨⟨ee, h1, by rw [← e 10 (by omega) (by omega)]; exact h2⟩, ⟨by rw [← e 12 (by omega) (by omega)]; exact h3.1, fun k hk => by rw [← e _ (by omega) (by omega)]; exact h3.2 k hk⟩, fun k hk => by rw [← e _ (by omega) (by omega)]; exact h4 k hk⟩
theorem OkV.stv {S : Nat → Int32} {c h e q n : Nat} (hO : OkV S c h e q n) : StV S := ⟨⟨e, hO.2.2.2.2.1, hO.2.2.2.2.2.1⟩, hO.2.2.2.2.2.2.1, hO.2.2.2.2.2.2.2.1⟩
/-- the slot stands: the act is kept -/
theorem keep_tail (N : Nat) {A : Nat → Nat} {κ : Cz} {μ μ1 : Mz} {u nx : Nat} (hR : RelA A κ μ) (hu20 : u ≤ 20) (hnx : nx < 20) (y0 : fi κ (A 38) 0 = nI u) (y1 : fi κ (A 38) 1 = nI nx) (y2 : gi 16 μ = nI u) (y3 : ∀ j, j < u → aq κ (A 39) (hSl nx u j) = some (A (100 + 4 * hSl nx u j)) ∧ St κ A (100 + 4 * hSl nx u j) (hsS μ j) ∧ StV (hsS μ j)) (ha : aq κ (A 39) nx = some (A (100 + 4 * nx))) (mc : MCh K16 K8 μ μ1) (m16 : gi 16 μ1 = nI (min (u + 1) 20)) (hh : ∀ j q, j < min (u + 1) 20 → 10 ≤ q → q < 43 → hsS μ1 j q = if j + 1 < min (u + 1) 20 then hsS μ (if u = 20 then j + 1 else j) q else ga 7 μ q) {post : Cz → Prop} (h : ∀ κ1, RelA A κ1 μ1 → post κ1) : wb_History_keep_32 N post (A 38) (A 29) (A (100 + 4 * nx)) κ := by
  have hs := hR.sh
  have hA := hs.inj
  have sst : sSt κ A (100 + 4 * nx) := by
    rcases hs.hs nx hnx with z | z
    · rw [ha] at z; exact absurd z (fun z => (nomatch z))
    · exact z.2
  obtain ⟨κ1, e1, s1, g1⟩ := c_copySt N hA sst hs.st29 (by omega) hR.wd.2.2.1
  have hs1 := hs.chg g1
  have n1 : ¬ Ls (100 + 4 * nx) 38 := by unfold Ls; omega
  have z0 : fi κ1 (A 38) 0 = nI u := by rw [g1.fi n1]; exact y0
  have z1 : fi κ1 (A 38) 1 = nI nx := by rw [g1.fi n1]; exact y1
  have e20 : nI (nx + 1) - nI (nx + 1) / 20 * 20 = nI ((nx + 1) % 20) := pk_rem (d := 20) (by omega) (by omega) (by omega)
  have em : (if (20 : Int32) < nI (u + 1) then 20 else nI (u + 1)) = nI (min (u + 1) 20) := by
    by_cases q : u = 20
    · subst q; decide
    · rw [if_neg (show ¬ (20 : Int32) < nI (u + 1) from nI_nlt (a := 20) (by omega) (by omega)), Nat.min_eq_left (by omega)]
  unfold wb_History_keep_32
  simp -implicitDefEqProofs only [sst, wck_1, e1, wbo_s, hs1.hi, wlt_s, z1, z0, nI_1, e20, fi_fi, and_false, if_false, em, false_and, Nat.zero_ne_one, (show (0 = 1) = False by decide)]
  have g2 : Chg A (fun r => Ls (100 + 4 * nx) r ∨ r = 38) κ (sfi (A 38) 0 (nI (min (u + 1) 20)) (sfi (A 38) 1 (nI ((nx + 1) % 20)) κ1)) := ((g1.mono (fun r z => Or.inl z)).trans (Chg.sfi (L := fun r => Ls (100 + 4 * nx) r ∨ r = 38) hA _ (r := 38) (Or.inr rfl) _ _)).trans (Chg.sfi (L := fun r => Ls (100 + 4 * nx) r ∨ r = 38) hA _ (r := 38) (Or.inr rfl) _ _)
  have nL : ∀ r, ¬ (100 + 4 * nx ≤ r ∧ r < 100 + 4 * nx + 4) → r ≠ 38 → ¬ (Ls (100 + 4 * nx) r ∨ r = 38) := fun r z1 z2 z3 => z3.elim z1 z2
  have i : ∀ k, k ≠ 16 → gi k μ1 = gi k μ := mc.1
  have a : ∀ k, k ≠ 8 → ga k μ1 = ga k μ := mc.2.1
  obtain ⟨c, hc, e, q, n, hO⟩ := hR.ok
  refine h _ (hR.gen g2.ch (fun r z => ?_) (i 1 (by decide)) (i 13 (by decide)) (a 1 (by decide)) (a 3 (by decide)) (a 4 (by decide)) (a 17 (by decide)) (a 18 (by decide)) (a 19 (by decide)) (a 20 (by decide)) (by rw [g2.fi (nL _ (by omega) (by omega))]) (hR.tp.ch (by rw [g2.fi (nL _ (by omega) (by omega))]) (g2.ai (nL _ (by omega) (by omega))) (i 0 (by decide)) (a 0 (by decide))) ?_ ?_ ?_ ?_ ?_)
  · rcases z with z | z
    · unfold Ls at z; omega
    · exact Or.inr (Or.inr (Or.inl z))
  · rw [a 7 (by decide), i 11 (by decide), i 12 (by decide)]
    exact hR.wd.chg g2 (fun r z1 z2 => nL r (by omega) (by omega))
  · rw [a 7 (by decide)]; exact hR.ok
  · rw [i 11 (by decide), i 1 (by decide)]; exact hR.fo
  · rw [i 12 (by decide)]; exact hR.xx
  · refine ⟨min (u + 1) 20, (nx + 1) % 20, by omega, by omega, by rw [fi_fi, if_pos ⟨rfl, rfl⟩], by rw [fi_fi, if_neg (by simp), fi_fi, if_pos ⟨rfl, rfl⟩], m16, fun j hj => ?_⟩
    rw [g2.aq]
    by_cases hl : j + 1 < min (u + 1) 20
    · have es : hSl ((nx + 1) % 20) (min (u + 1) 20) j = hSl nx u (if u = 20 then j + 1 else j) := by
        unfold hSl
        split <;> omega
      have hjj : (if u = 20 then j + 1 else j) < u := by split <;> omega
      obtain ⟨k1, k2, k3⟩ := y3 _ hjj
      have hne : hSl nx u (if u = 20 then j + 1 else j) ≠ nx := by
        unfold hSl
        split <;> omega
      rw [es]
      have ec : ∀ q, 10 ≤ q → q < 43 → hsS μ (if u = 20 then j + 1 else j) q = hsS μ1 j q := fun q q1 q2 => by rw [hh j q hj q1 q2, if_pos hl]
      exact ⟨k1, (k2.chg g2 (fun r z1 z2 => nL r (by omega) (by omega))).congr ec, k3.congr ec⟩
    · have es : hSl ((nx + 1) % 20) (min (u + 1) 20) j = nx := by
        unfold hSl
        omega
      rw [es]
      have ec : ∀ q, 10 ≤ q → q < 43 → ga 7 μ q = hsS μ1 j q := fun q q1 q2 => by rw [hh j q hj q1 q2, if_neg hl]
      refine ⟨ha, ?_, hO.stv.congr ec⟩
      have s2 : St (sfi (A 38) 0 (nI (min (u + 1) 20)) (sfi (A 38) 1 (nI ((nx + 1) % 20)) κ1)) A (100 + 4 * nx) (ga 7 μ) := s1.chg ((Chg.sfi (L := fun r => r = 38) hA κ1 (r := 38) rfl _ _).trans (Chg.sfi (L := fun r => r = 38) hA _ (r := 38) rfl _ _)) (fun r z1 z2 z3 => by omega)
      exact s2.congr ec
theorem w_keep (N : Nat) (hN : 20000 ≤ N) {A : Nat → Nat} {κ : Cz} {μ : Mz} (hR : RelA A κ μ) : ∃ μ1, p12_keepsAct N μ = some μ1 ∧ MCh K16 K8 μ μ1 ∧ ∀ {post : Cz → Prop}, (∀ P κ1, P 0 = A 0 → RelA P κ1 μ1 → post κ1) → w_History_keep N (A 38) (A 29) κ post := by
  have hs := hR.sh
  have hA := hs.inj
  obtain ⟨u, nx, hu, hnx, y0, y1, y2, y3⟩ := hR.hy
  obtain ⟨μ1, e1, mc, m16, hh⟩ := m_keepsAct N hN μ y2 hu
  refine ⟨μ1, e1, mc, fun {post} h => ?_⟩
  unfold w_History_keep
  simp -implicitDefEqProofs only [hs.hi, wck_1, wbo_s, wlt_s, y1, inbT hnx (by decide), clN (show nx < 2147483648 by omega)]
  rcases hs.hs nx hnx with z | ⟨z, -⟩
  · rw [z, woc_n]
    intro q hq
    refine w_stateI N (isK_nwS q 8 0 κ) (fun κ1 Q q0 sq x q1 q2 q3 q4 => ?_)
    obtain ⟨R, r6, -, r1, -⟩ := hR.rl
    have nq : ∀ i, i < 4 → Q i ∉ Lk κ := by
      intro i hi
      by_cases h0 : i = 0
      · subst h0; rw [q0]; exact hq
      · exact fun y => q1 i (by omega) hi (in_nw.mpr (Or.inl y))
    obtain ⟨P, hP, p1, p2⟩ := newA hA (Lk κ) (100 + 4 * nx) 4 Q q2 nq
    have xn : Xn κ κ1 := by
      have x1 : Xb (fun a => a = q) κ κ1 := (Xb.new hq 8 0).trans x
      exact x1.mono (fun a ha hb => hq (hb ▸ ha))
    have mem := hR.mem r6 r1
    have hR1 : RelA P κ1 μ := hR.ext r6 r1 hP xn (fun r hr => p2 r (by
      rcases hr with y | ⟨i, i1, i2, i3, i4⟩ | ⟨k, i1, i2, i3, i4⟩ | ⟨j, i1, i3, i4⟩
      · omega
      · have : i ≠ nx := fun y => i2 (y ▸ z)
        omega
      · omega
      · omega) (mem r hr))
    have hs1 := hR1.sh
    have p0 : P (100 + 4 * nx) = q := (p1 0 (by omega)).trans q0
    have sst : sSt κ1 P (100 + 4 * nx) := sq.nm (fun i hi => by rw [p1 i hi, Nat.zero_add])
    have eP : ∀ r, r ≤ 72 → P r = A r := fun r hr => p2 r (by omega) (hs.mem r hr)
    have fK : ∀ r, r ≤ 72 → ∀ k, isK κ1 (A r) k = isK κ (A r) k := fun r hr => (xn.all (hs.mem r hr)).1
    have fF : fr κ1 (A 38) = fr κ (A 38) := (xn.all (hs.mem 38 (by omega))).2.2.2.1
    have fL : ln κ1 (A 39) = ln κ (A 39) := (xn.all (hs.mem 39 (by omega))).2.1
    have fI : fi κ1 (A 38) = fi κ (A 38) := (xn.all (hs.mem 38 (by omega))).2.2.1
    have fQ : aq κ1 (A 39) = aq κ (A 39) := (xn.all (hs.mem 39 (by omega))).2.2.2.2.2
    have hk8 : isK κ1 q 8 = true := by rw [← p0]; exact sst.1
    simp -implicitDefEqProofs only [fK 38 (by omega), fK 39 (by omega), fF, fL, fI, hs.hi, wck_1, wbo_s, wlt_s, y1, inbT hnx (by decide), clN (show nx < 2147483648 by omega), hk8]
    rw [← p0, ← eP 38 (by omega), ← eP 29 (by omega), ← eP 39 (by omega)]
    -- the slot is filled
    have hR2 : RelA P (saq (P 39) (va_up (aq κ1 (P 39)) nx (some (P (100 + 4 * nx)))) κ1) μ := by
      have aqo : ∀ r, r ≠ 39 → aq (saq (P 39) (va_up (aq κ1 (P 39)) nx (some (P (100 + 4 * nx)))) κ1) (P r) = aq κ1 (P r) := fun r hr => va_up_ne _ _ (hP.ne hr)
      have aqs : aq (saq (P 39) (va_up (aq κ1 (P 39)) nx (some (P (100 + 4 * nx)))) κ1) (P 39) = va_up (aq κ1 (P 39)) nx (some (P (100 + 4 * nx))) := va_up_self _ _ _
      obtain ⟨a1, a2, a3, a4, a5, a6, a7, a8, a9, a10⟩ := hR1
      obtain ⟨b1, b2, b3, b4, b5, b6, b7, b8, b9, b10, b11, b12, b13⟩ := a1
      refine ⟨⟨b1, b2, b3, b4, b5, b6, b7, b8, ?_, b10, b11, ?_, ?_⟩, a2, ?_, a4, a5, a6, a7, ?_, ?_, a10⟩
      · obtain ⟨c1, c2, c3, c4, c5, c6, c7, c8, c9, c10, c11, c12⟩ := b9
        refine ⟨c1, c2, c3, c4, c5, c6, c7, c8, c9, c10, c11, ?_⟩
        rw [aqo 43 (by decide)]
        exact c12
      · intro i hi
        rw [aqs]
        by_cases hin : i = nx
        · subst hin
          rw [va_up_self]
          exact Or.inr ⟨rfl, sst⟩
        · rw [va_up_ne _ _ hin]
          exact b12 i hi
      · intro k hk
        rw [aqo 37 (by decide)]
        exact b13 k hk
      · obtain ⟨R2, s1, s2, s3, s4⟩ := a3
        exact ⟨R2, s1, s2, s3, fun r hr => ⟨by rw [aqo 19 (by decide)]; exact (s4 r hr).1, (s4 r hr).2⟩⟩
      · obtain ⟨u', nx', v1, v2, v3, v4, v5, v6⟩ := a8
        refine ⟨u', nx', v1, v2, v3, v4, v5, fun j hj => ?_⟩
        obtain ⟨w1, w2, w3⟩ := v6 j hj
        refine ⟨?_, w2, w3⟩
        rw [aqs]
        by_cases hin : hSl nx' u' j = nx
        · rw [hin, va_up_self]
        · rw [va_up_ne _ _ hin]; exact w1
      · intro k hk
        rw [aqo 37 (by decide)]
        exact a9 k hk
    have ha2 : aq (saq (P 39) (va_up (aq κ1 (P 39)) nx (some (P (100 + 4 * nx)))) κ1) (P 39) nx = some (P (100 + 4 * nx)) := by
      show va_up (aq κ1) (P 39) (va_up (aq κ1 (P 39)) nx (some (P (100 + 4 * nx)))) (P 39) nx = _
      rw [va_up_self, va_up_self]
    obtain ⟨u', nx', v1, v2, v3, v4, v5, v6⟩ := hR2.hy
    have eu : u' = u := (nI_eq (by omega) (by omega)).mp (v5.symm.trans y2)
    have en : nx' = nx := by
      have t : fi κ1 (P 38) 1 = nI nx := by rw [eP 38 (by omega), fI]; exact y1
      exact (nI_eq (by omega) (by omega)).mp (v4.symm.trans t)
    subst eu en
    exact keep_tail N hR2 hu hnx v3 v4 y2 v6 ha2 mc m16 hh (fun κ2 hr => h P κ2 (eP 0 (by omega)) hr)
  · rw [z, woc_s]
    exact keep_tail N hR hu hnx y0 y1 y2 y3 z mc m16 hh (fun κ2 hr => h A κ2 rfl hr)
