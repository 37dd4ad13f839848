/-! an edition with another purse -/
theorem upd_pu (S : Nat → Int32) (v x : Int32) {k : Nat} (hk : k ≠ 11) : upd (pu S v) k x = pu (upd S k x) v := by
  funext j
  unfold pu
  rw [upd_at, upd_at, upd_at, upd_at]
  by_cases a : j = k
  · rw [if_pos a, if_neg (by omega), if_pos a]
  · rw [if_neg a]
    by_cases b : j = 11
    · rw [if_pos b, if_pos b]
    · rw [if_neg b, if_neg b, if_neg a]
theorem pu_upd (S : Nat → Int32) (v x : Int32) : pu (upd S 11 x) v = pu S v := upd_upd S 11 x v
theorem upd_pu11 (S : Nat → Int32) (v x : Int32) : upd (pu S v) 11 x = pu S x := upd_upd S 11 v x
theorem sMd_pu (S : Nat → Int32) (v : Int32) (c : Nat) (m : Int32) : sMd (pu S v) c m = pu (sMd S c m) v := by
  unfold sMd
  split
  · rw [pu_o S v (by omega), upd_pu S v _ (by omega)]
  · rfl
theorem slipG_pu (S : Nat → Int32) (v m f t : Int32) : ∀ d i, slipG (pu S v) m f t d i = pu (slipG S m f t d i) v
  | 0, _ => rfl
  | d + 1, i => by
    rw [slipG, slipG]
    split
    · exact slipG_pu S v m f t d (i + 1)
    · rw [pu_o S v (show 13 + i ≠ 11 by omega)]
      split
      · exact upd_pu S v t (by omega)
      · exact slipG_pu S v m f t d (i + 1)
theorem sSlip_pu (S : Nat → Int32) (v : Int32) (c h e : Nat) (lf m : Int32) : sSlip (pu S v) c h e lf m = pu (sSlip S c h e lf m) v := by
  unfold sSlip
  split
  · rfl
  · rw [pu_o S v (by omega), pu_o S v (by omega)]
    exact slipG_pu S v _ _ _ _ _
theorem or_ne0 {x : Int32} (y : Int32) (h : x ≠ 0) : x ||| y ≠ 0 := by
  intro z
  apply h
  have hb : ∀ k, bt x k = false := by
    intro k
    have h1 : bt (x ||| y) k = false := by rw [z]; exact b_0 k
    rw [b_or] at h1
    cases hx : bt x k with
    | false => rfl
    | true => rw [hx] at h1; cases h1
  apply Int32.toBitVec_inj.mp
  apply BitVec.eq_of_getLsbD_eq
  intro i hi
  have h1 := hb i
  have h2 := b_0 i
  unfold bt at h1 h2
  rw [h1, h2]
theorem bitI_ne0 : ∀ n, n < 32 → bitI n ≠ 0 := by decide +kernel
theorem or0 (x : Int32) : (0 : Int32) ||| x = x := by
  apply Int32.toBitVec_inj.mp
  simp
/-- how many of the first n are wrong -/
def cw (S : Nat → Int32) : Nat → Nat
  | 0 => 0
  | n + 1 => cw S n + if S (13 + n) = S (43 + n) then 0 else 1
theorem cw_le (S : Nat → Int32) : ∀ n, cw S n ≤ n
  | 0 => Nat.le_refl _
  | n + 1 => by
    have := cw_le S n
    rw [cw]
    split <;> omega
theorem nI_subN {a b : Nat} (h : b ≤ a) : nI a - nI b = nI (a - b) := pk_sub h
theorem pay_rich {S : Nat → Int32} {a Q : Nat} (ha : S 11 = nI a) (hq : S 1 = nI Q) (hQ : Q ≤ 9) (ha2 : a < 2 ^ 31) : ∀ n, n ≤ 10 → Q * cw S n ≤ a → (payF n (S, 0, 0)).1 11 = nI (a - Q * cw S n) ∧ (payF n (S, 0, 0)).2.1 = 0
  | 0, _, _ => ⟨by show S 11 = _; rw [ha]; simp [cw], rfl⟩
  | n + 1, hn, hr => by
    have o13 : (payF n (S, 0, 0)).1 (13 + n) = S (13 + n) := payF_o (by omega) (by omega) n _ (by omega)
    have o43 : (payF n (S, 0, 0)).1 (43 + n) = S (43 + n) := payF_o (by omega) (by omega) n _ (by omega)
    have o1 : (payF n (S, 0, 0)).1 1 = nI Q := (payF_o (by omega) (by omega) n _ (by omega)).trans hq
    rw [cw] at hr
    have hr' : Q * cw S n ≤ a := by
      rw [Nat.mul_add] at hr
      omega
    obtain ⟨h1, h2⟩ := pay_rich ha hq hQ ha2 n (by omega) hr'
    rw [payF, cw]
    unfold payStep
    rw [o13, o43]
    by_cases z : S (13 + n) = S (43 + n)
    · rw [if_pos z, if_pos z, Nat.add_zero]
      exact ⟨h1, h2⟩
    · rw [if_neg z] at hr
      rw [if_neg z, if_neg z, h1, o1]
      rw [Nat.mul_add, Nat.mul_one] at hr ⊢
      rw [if_neg (nI_nlt (by omega) (by omega)), nI_subN (by omega)]
      refine ⟨?_, h2⟩
      rw [show a - (Q * cw S n + Q) = a - Q * cw S n - Q by omega]
      dsimp only
      split
      · rw [upd_at, if_pos rfl]
      · rw [upd_at, if_neg (by omega), upd_at, if_pos rfl]
theorem payStep_p {k : Nat} {z : (Nat → Int32) × Int32 × Int32} (h1 : ¬ z.1 (13 + k) = z.1 (43 + k)) (h2 : ¬ z.1 11 < z.1 1) : payStep k z = ((if 999 ≤ z.1 (23 + k) then upd z.1 11 (z.1 11 - z.1 1) else upd (upd z.1 11 (z.1 11 - z.1 1)) (23 + k) (z.1 (23 + k) + 1)), z.2.1, z.2.2 ||| bitI k) := by
  unfold payStep
  rw [if_neg h1, if_neg h2, show upd z.1 11 (z.1 11 - z.1 1) (23 + k) = z.1 (23 + k) by rw [upd_at, if_neg (by omega)]]
theorem payStep_w {k : Nat} {z : (Nat → Int32) × Int32 × Int32} (h1 : ¬ z.1 (13 + k) = z.1 (43 + k)) (h2 : z.1 11 < z.1 1) : (payStep k z).2.1 = z.2.1 ||| bitI k := by
  unfold payStep
  rw [if_neg h1, if_pos h2]
theorem pay_pu {S : Nat → Int32} {a b Q : Nat} (ha : S 11 = nI a) (hq : S 1 = nI Q) (hQ : Q ≤ 9) (ha2 : a < 2 ^ 31) (hb2 : b < 2 ^ 31) (hr : Q * 10 ≤ a) : ∀ n, n ≤ 10 → (Q * cw S n ≤ b → payF n (pu S (nI b), 0, 0) = (pu (payF n (S, 0, 0)).1 (nI (b - Q * cw S n)), 0, (payF n (S, 0, 0)).2.2)) ∧ (b < Q * cw S n → (payF n (pu S (nI b), 0, 0)).2.1 ≠ 0)
  | 0, _ => ⟨fun _ => by simp [payF, cw], fun z => absurd z (by simp [cw])⟩
  | n + 1, hn => by
    obtain ⟨i1, i2⟩ := pay_pu ha hq hQ ha2 hb2 hr n (by omega)
    have hcw : Q * cw S n ≤ Q * 9 := Nat.mul_le_mul_left Q (Nat.le_trans (cw_le S n) (by omega))
    obtain ⟨h1, h2⟩ := pay_rich ha hq hQ ha2 n (by omega) (by omega)
    have o13 : (payF n (S, 0, 0)).1 (13 + n) = S (13 + n) := payF_o (by omega) (by omega) n _ (by omega)
    have o43 : (payF n (S, 0, 0)).1 (43 + n) = S (43 + n) := payF_o (by omega) (by omega) n _ (by omega)
    have o1 : (payF n (S, 0, 0)).1 1 = nI Q := (payF_o (by omega) (by omega) n _ (by omega)).trans hq
    have p13 : (payF n (pu S (nI b), 0, 0)).1 (13 + n) = S (13 + n) := (payF_o (by omega) (by omega) n _ (by omega)).trans (pu_o S _ (by omega))
    have p43 : (payF n (pu S (nI b), 0, 0)).1 (43 + n) = S (43 + n) := (payF_o (by omega) (by omega) n _ (by omega)).trans (pu_o S _ (by omega))
    rw [payF, payF, cw]
    by_cases z : S (13 + n) = S (43 + n)
    · unfold payStep
      rw [p13, p43, o13, o43, if_pos z, if_pos z, if_pos z, Nat.add_zero]
      exact ⟨i1, i2⟩
    · rw [if_neg z, Nat.mul_add, Nat.mul_one]
      refine ⟨fun hl => ?_, fun hl => ?_⟩
      · have e := i1 (by omega)
        rw [e]
        generalize hZ : payF n (S, 0, 0) = Z at *
        obtain ⟨T, o, p⟩ := Z
        have n1 : ¬ (pu T (nI (b - Q * cw S n))) (13 + n) = (pu T (nI (b - Q * cw S n))) (43 + n) := by
          rw [pu_o T _ (show 13 + n ≠ 11 by omega), pu_o T _ (show 43 + n ≠ 11 by omega)]
          intro y
          exact z (o13.symm.trans (y.trans o43))
        have n2 : ¬ (pu T (nI (b - Q * cw S n))) 11 < (pu T (nI (b - Q * cw S n))) 1 := by
          rw [pu_11, pu_o T _ (show 1 ≠ 11 by omega), show T 1 = nI Q from o1]
          exact nI_nlt (by omega) (by omega)
        have n3 : ¬ T (13 + n) = T (43 + n) := fun y => z (o13.symm.trans (y.trans o43))
        have n4 : ¬ T 11 < T 1 := by
          rw [show T 11 = nI (a - Q * cw S n) from h1, show T 1 = nI Q from o1]
          exact nI_nlt (by omega) (by omega)
        rw [payStep_p (z := (pu T (nI (b - Q * cw S n)), 0, p)) n1 n2, payStep_p (z := (T, o, p)) n3 n4]
        show ((if 999 ≤ pu T (nI (b - Q * cw S n)) (23 + n) then upd (pu T (nI (b - Q * cw S n))) 11 (pu T (nI (b - Q * cw S n)) 11 - pu T (nI (b - Q * cw S n)) 1) else upd (upd (pu T (nI (b - Q * cw S n))) 11 (pu T (nI (b - Q * cw S n)) 11 - pu T (nI (b - Q * cw S n)) 1)) (23 + n) (pu T (nI (b - Q * cw S n)) (23 + n) + 1)), (0 : Int32), p ||| bitI n) = (pu (if 999 ≤ T (23 + n) then upd T 11 (T 11 - T 1) else upd (upd T 11 (T 11 - T 1)) (23 + n) (T (23 + n) + 1)) (nI (b - (Q * cw S n + Q))), 0, p ||| bitI n)
        rw [pu_o T _ (show 23 + n ≠ 11 by omega), pu_11, pu_o T _ (show 1 ≠ 11 by omega), show T 1 = nI Q from o1, nI_subN (by omega), upd_pu11, show b - (Q * cw S n + Q) = b - Q * cw S n - Q by omega]
        congr 1
        by_cases y : 999 ≤ T (23 + n)
        · rw [if_pos y, if_pos y, pu_upd]
        · rw [if_neg y, if_neg y, ← upd_pu (upd T 11 _) _ _ (show 23 + n ≠ 11 by omega), pu_upd]
      · by_cases hb : b < Q * cw S n
        · have hne := i2 hb
          unfold payStep
          rw [p13, p43, if_neg z]
          split
          · exact or_ne0 _ hne
          · exact hne
        · have e := i1 (by omega)
          rw [e]
          generalize hZ : payF n (S, 0, 0) = Z at *
          obtain ⟨T, o, p⟩ := Z
          have n1 : ¬ (pu T (nI (b - Q * cw S n))) (13 + n) = (pu T (nI (b - Q * cw S n))) (43 + n) := by
            rw [pu_o T _ (show 13 + n ≠ 11 by omega), pu_o T _ (show 43 + n ≠ 11 by omega)]
            intro y
            exact z (o13.symm.trans (y.trans o43))
          have n2 : (pu T (nI (b - Q * cw S n))) 11 < (pu T (nI (b - Q * cw S n))) 1 := by
            rw [pu_11, pu_o T _ (show 1 ≠ 11 by omega), show T 1 = nI Q from o1]
            exact (nI_ltI (by omega) (by omega)).mpr (by omega)
          rw [payStep_w (z := (pu T (nI (b - Q * cw S n)), 0, p)) n1 n2]
          show (0 : Int32) ||| bitI n ≠ 0
          rw [or0]
          exact bitI_ne0 n (by omega)
/-- an edition costs K, if the purse holds it -/
theorem ed_pu {S : Nat → Int32} {c h e a b Q : Nat} {lf m : Int32} (hc : c ≤ 10) (ha : S 11 = nI a) (hq : S 1 = nI Q) (hQ : Q ≤ 9) (ha2 : a < 2 ^ 31) (hb2 : b < 2 ^ 31) (hr : Q * 10 ≤ a) : ∃ K, K ≤ Q * 10 ∧ K = Q * cw (sSlip (sMd S c m) c h e lf m) c ∧ (sEd S c h e lf m).1 11 = nI (a - K) ∧ (K ≤ b → (sEd (pu S (nI b)) c h e lf m).1 = pu (sEd S c h e lf m).1 (nI (b - K)) ∧ (sEd (pu S (nI b)) c h e lf m).2.1 = 0) ∧ (b < K → (sEd (pu S (nI b)) c h e lf m).2.1 ≠ 0) := by
  have x11 : sSlip (sMd S c m) c h e lf m 11 = nI a := by rw [sSlip_o _ _ _ _ _ _ (by omega), sMd_o2 S hc m (by omega)]; exact ha
  have x1 : sSlip (sMd S c m) c h e lf m 1 = nI Q := by rw [sSlip_o _ _ _ _ _ _ (by omega), sMd_o2 S hc m (by omega)]; exact hq
  have hK : Q * cw (sSlip (sMd S c m) c h e lf m) c ≤ Q * 10 := Nat.mul_le_mul_left Q (Nat.le_trans (cw_le _ c) hc)
  obtain ⟨r1, r2⟩ := pay_rich x11 x1 hQ ha2 c hc (by omega)
  obtain ⟨p1, p2⟩ := pay_pu x11 x1 hQ ha2 hb2 hr c hc
  refine ⟨Q * cw (sSlip (sMd S c m) c h e lf m) c, hK, rfl, ?_, fun hl => ?_, fun hl => ?_⟩
  · show upd (payF c (sSlip (sMd S c m) c h e lf m, 0, 0)).1 10 (nI (e + 1)) 11 = _
    rw [upd_at, if_neg (by omega)]; exact r1
  · have e1 := p1 hl
    refine ⟨?_, ?_⟩
    · show upd (payF c (sSlip (sMd (pu S (nI b)) c m) c h e lf m, 0, 0)).1 10 (nI (e + 1)) = pu (upd (payF c (sSlip (sMd S c m) c h e lf m, 0, 0)).1 10 (nI (e + 1))) _
      rw [sMd_pu, sSlip_pu, e1]
      exact upd_pu _ _ _ (by decide)
    · show (payF c (sSlip (sMd (pu S (nI b)) c m) c h e lf m, 0, 0)).2.1 = 0
      rw [sMd_pu, sSlip_pu, e1]
  · show (payF c (sSlip (sMd (pu S (nI b)) c m) c h e lf m, 0, 0)).2.1 ≠ 0
    rw [sMd_pu, sSlip_pu]
    exact p2 hl
