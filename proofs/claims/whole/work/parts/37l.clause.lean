/-! a rule is read: clause by clause -/
def KP (R : Nat) (G H Q : Nat → Int32) (μ : Mz) : Prop := (∀ j, j < 400 * R → ga 1 μ j = G j) ∧ (∀ j, j < 48 * R → ga 3 μ j = H j) ∧ ∀ j, j ≠ R → ga 4 μ j = Q j
theorem KP.mf {R : Nat} {G H Q : Nat → Int32} {μ μ1 : Mz} {I J : Nat → Prop} (h : KP R G H Q μ) (g : MF I J μ μ1) (n5 : ¬ I 5) (n3 : ¬ J 3) (n4 : ¬ J 4) (hR : R < 6) (h5 : gi 5 μ = nI R) : KP R G H Q μ1 := ⟨fun j hj => (g.2.2.2 n5 R j hR h5 hj).trans (h.1 j hj), fun j hj => by rw [g.2.1 3 n3]; exact h.2.1 j hj, fun j hj => by rw [g.2.1 4 n4]; exact h.2.2 j hj⟩
theorem KP.s3 {R : Nat} {G H Q : Nat → Int32} {μ : Mz} (h : KP R G H Q μ) {a : Nat} (ha : 48 * R ≤ a) (x : Int32) : KP R G H Q (sa 3 (upd (ga 3 μ) a x) μ) := ⟨fun j hj => by rw [ga_sa_ne (by decide)]; exact h.1 j hj, fun j hj => by rw [ga_sa, upd_at, if_neg (by omega)]; exact h.2.1 j hj, fun j hj => by rw [ga_sa_ne (by decide)]; exact h.2.2 j hj⟩
theorem rl_clause (N : Nat) (hN : 20000 ≤ N) {B : Nat → Nat} {t n k R c : Nat} {G H Q : Nat → Int32} {s en : Nat → Nat} {cs : List Nat} {v : Nat} {A : Nat → Nat} {κ : Cz} {μ : Mz} (hM : RM B t n k R c G H Q s en cs v A κ μ) (f : Nat) : (∃ (κ1 : Cz) (μ1 : Mz) (k1 : Nat) (s1 en1 : Nat → Nat) (cs1 : List Nat) (v1 : Nat), k < k1 ∧ c < 12 ∧ b_RuleReader_readRule_15 N (f + 2) (A 15) κ = (if fi κ1 (A 2) 5 = 0 then some (0, κ1) else bo (p_Tokens_takeSign N (A 2) 59 κ1) (fun κ49 => b_RuleReader_readRule_15 N (f + 1) (A 15) κ49)) ∧ p12_clauseHere N μ = some (1, μ1) ∧ RM B t n k1 R (c + 1) G H Q s1 en1 cs1 v1 A κ1 μ1 ∧ Chg A LRu κ κ1 ∧ MF IRu JRu μ μ1) ∨ (∃ (F : Nat) (κ1 : Cz) (μ1 : Mz), 0 < F ∧ F < 2 ^ 31 ∧ b_RuleReader_readRule_15 N (f + 2) (A 15) κ = some (nI F, κ1) ∧ p12_clauseHere N μ = some (0, μ1) ∧ gi 3 μ1 = nI F ∧ Chg A LRu κ κ1 ∧ MF IRu JRu μ μ1 ∧ KP R G H Q μ1) := by
  have hM' := hM
  obtain ⟨hJ, hC, hk, h12, g5, g4, g8, e0, ec, hr, hH, hQ⟩ := hM'
  have hs := hJ.1
  have hA := hs.inj
  have hT := hJ.2.1
  have ht := hJ.2.2.1.1
  have hB : ∀ i, i < t → B i < 256 := fun i hi => (hJ.2.2.1.2.2 i hi).1
  have hR : R < 6 := hC.1
  have r5 : gi 5 μ = nI R := hC.2.1
  have hkn : k ≤ n := hT.2.2.2.1
  have hn4 : n ≤ 400 := hT.2.2.1
  have kp : KP R G H Q μ := ⟨hC.2.2.2.2.2.1, hH, hQ⟩
  have Js := hJ.see
  have Ms : MF IRu JRu μ (si 2 (nI (plc B t k)) μ) := MF.si (by unfold IRu; omega) _ _
  have kps : KP R G H Q (si 2 (nI (plc B t k)) μ) := kp
  have g3s : gi 3 (si 2 (nI (plc B t k)) μ) = 0 := Js.2.2.2.1
  have lt_r : ∀ {κ κ1 : Cz}, Chg A Lt5 κ κ1 → Chg A LRu κ κ1 := fun g => g.mono (fun r z => by unfold Lt5 at z; unfold LRu; omega)
  have fx : ∀ w, w < 8 → ∃ κ1, p_Tokens_fail N (A 2) (nI w) κ = some κ1 ∧ Flt (1 + 8 * plc B t k + w) A κ1 ∧ Chg A Lt5 κ κ1 ∧ gi 3 (flt w (plc B t k) (si 2 (nI (plc B t k)) μ)) = nI (1 + 8 * plc B t k + w) ∧ MF IRu JRu μ (flt w (plc B t k) (si 2 (nI (plc B t k)) μ)) ∧ KP R G H Q (flt w (plc B t k) (si 2 (nI (plc B t k)) μ)) := by
    intro w hw
    obtain ⟨κ1, e1, f1, c1⟩ := c_fail N hs ht hT hw
    refine ⟨κ1, e1, f1, c1, ?_, ?_, ?_⟩
    · unfold flt
      rw [if_pos g3s, gi_si]
    · unfold flt
      rw [if_pos g3s]
      exact Ms.trans (MF.si (by unfold IRu; omega) _ _)
    · unfold flt
      rw [if_pos g3s]
      exact kp
  have i15 : p_Tokens_isWord N (A 2) 15 κ = _ := c_isWord N hs hT (w := 15) (by decide)
  rw [m_clauseR N hN hJ hR r5 g8 h12]
  by_cases w15 : isW B t (plc B t k) (CD 15) = true
  · rw [if_pos w15]
    rw [if_pos w15] at i15
    by_cases c12 : c = 12
    · right
      subst c12
      rw [if_pos rfl]
      obtain ⟨κ1, e1, f1, c1, q1, q2, q3⟩ := fx 4 (by decide)
      have e1' : p_Tokens_fail N (A 2) 4 κ = some κ1 := e1
      have hs1 := hs.chg c1
      refine ⟨_, κ1, _, f1.2.1, f1.2.2.1, ?_, rfl, q1, lt_r c1, q2, q3⟩
      rw [b_RuleReader_readRule_15]
      simp -implicitDefEqProofs only [hs.rR, hs.tk, ck_1, bo_s, g5, i15, bd_s, e1', hs1.rR, hs1.tk, f1.1]
      rw [if_pos (show (12 : Int32) ≤ nI 12 from nI_le (a := 12) (b := 12) (by omega) (by omega)), if_neg ne10]
    · have hc : c < 12 := by omega
      rw [if_neg c12]
      -- behind the word
      have J8 := Js.si (j := 8) (by decide) (by decide) (by decide) (nI (c + 1))
      have h28 : gi 2 (si 8 (nI (c + 1)) (si 2 (nI (plc B t k)) μ)) = nI (plc B t k) := by rw [gi_si_ne (by decide), gi_si]
      obtain ⟨κ1, e1, pw, J1, c1⟩ := word_S N hN J8 h28 w15
      have hs1 := hs.chg c1
      generalize hμw : si 2 (nI (runTo smB B t (plc B t k))) (si 8 (nI (c + 1)) (si 2 (nI (plc B t k)) μ)) = μw at pw J1
      have Mw : MF IRu JRu μ μw := by
        rw [← hμw]
        exact (Ms.trans (MF.si (by unfold IRu; omega) _ _)).trans (MF.si (by unfold IRu; omega) _ _)
      have gaw : ∀ j, ga j μw = ga j μ := fun j => by rw [← hμw]; rfl
      have giw : ∀ j, j ≠ 2 → j ≠ 8 → gi j μw = gi j μ := fun j h2 h8 => by rw [← hμw, gi_si_ne h2, gi_si_ne h8, gi_si_ne h2]
      have gi8 : gi 8 μw = nI (c + 1) := by rw [← hμw, gi_si_ne (by decide), gi_si]
      have w5 : gi 5 μw = nI R := (giw 5 (by decide) (by decide)).trans r5
      have C1 : RC R (upd G 2400 (nI c)) cs v A κ1 μw := by
        have C0 := (hC.to hc g5).chg c1 (by unfold Lt5; omega) (by unfold Lt5; omega)
        unfold RC
        rw [giw 5 (by decide) (by decide), giw 6 (by decide) (by decide), gaw 1, gaw 2]
        exact C0
      have w4 : ga 4 μw R = nI c := by rw [gaw]; exact g4
      have w2 : ga 2 μw R = nI cs.length := by rw [gaw]; exact hC.2.2.1
      have kpw : KP R G H Q μw := by
        unfold KP
        rw [gaw, gaw, gaw]
        exact kp
      have ea : (48 : Int32) * nI R + 4 * nI c = nI (48 * R + 4 * c) := by rw [show (48 : Int32) = nI 48 from rfl, show (4 : Int32) = nI 4 from rfl, pk_mul, pk_mul, nI_add]
      have e2a : nI (48 * R + 4 * c) + 2 = nI (48 * R + 4 * c + 2) := by rw [show (2 : Int32) = nI 2 from rfl, nI_add]
      have K1 : RK B t n (k + 1) R (upd G 2400 (nI c)) 0 cs v A κ1 (sa 3 (upd (ga 3 μw) (48 * R + 4 * c) (nI cs.length)) μw) := ⟨J1.sa (by decide) _, C1.s3 _, by omega⟩
      have kp1 := kpw.s3 (a := 48 * R + 4 * c) (by omega) (nI cs.length)
      have M1 := Mw.trans (mf_r3 (upd (ga 3 μw) (48 * R + 4 * c) (nI cs.length)) μw)
      have a31 : ga 3 (sa 3 (upd (ga 3 μw) (48 * R + 4 * c) (nI cs.length)) μw) = upd (ga 3 μ) (48 * R + 4 * c) (nI cs.length) := by rw [ga_sa, gaw]
      have a41 : ga 4 (sa 3 (upd (ga 3 μw) (48 * R + 4 * c) (nI cs.length)) μw) = ga 4 μ := by rw [ga_sa_ne (by decide), gaw]
      have a81 : gi 8 (sa 3 (upd (ga 3 μw) (48 * R + 4 * c) (nI cs.length)) μw) = nI (c + 1) := gi8
      obtain ⟨r, κ2, μ2, e2, m2, c2, M2, o2⟩ := sum_both N hN (by omega) K1
      have P : p12_isMendHere N (si 8 (nI (c + 1)) (si 2 (nI (plc B t k)) μ)) = bd (p12_sum N (sa 3 (upd (ga 3 μw) (48 * R + 4 * c) (nI cs.length)) μw)) (fun r10 μ10 => if r10 = 0 then some (0, μ10) else lt (gi 5 μ10) (fun v11 => ck (inb v11 7) (lt (ga 2 μ10 v11.toNatClampNeg) (fun v13 => ck (inb (nI (48 * R + 4 * c + 1)) 288) (lt (sa 3 (upd (ga 3 μ10) (nI (48 * R + 4 * c + 1)).toNatClampNeg v13) μ10) (fun μ15 => ck (inb (nI (48 * R + 4 * c + 2)) 288) (lt (sa 3 (upd (ga 3 μ15) (nI (48 * R + 4 * c + 2)).toNatClampNeg (-1)) μ15) (fun μ17 => bd (p12_takesWord N 26982 μ17) (fun r18 μ18 => if r18 = 0 then b12_isMendHere_110 N (nI (48 * R + 4 * c)) μ18 else lt (gi 5 μ18) (fun v29 => ck (inb v29 7) (lt (ga 2 μ18 v29.toNatClampNeg) (fun v31 => ck (inb (nI (48 * R + 4 * c + 2)) 288) (lt (sa 3 (upd (ga 3 μ18) (nI (48 * R + 4 * c + 2)).toNatClampNeg v31) μ18) (fun μ33 => bd (p12_tested N  μ33) (fun r34 μ34 => if r34 = 0 then some (0, μ34) else b12_isMendHere_110 N (nI (48 * R + 4 * c)) μ34))))))))))))))) := by
        unfold p12_isMendHere
        rw [pw, bo_s]
        simp -implicitDefEqProofs only [lt_s9, w5, inbT (show R < 6 by omega) (by decide), inbT (show R < 7 by omega) (by decide), ck_1, clN (show R < 2147483648 by omega), w4, w2, ea, e2a, nI_1, inbT (show 48 * R + 4 * c < 288 by omega) (by decide), clN (show 48 * R + 4 * c < 2147483648 by omega)]
      rw [P, m2, bd_s]
      have hs2 := hs1.chg c2
      have g17 : ∀ {κ : Cz} {x : Nat → Int32}, Chg A (fun r => r = 17) κ (sai (A 17) x κ) := fun {κ x} => Chg.sai (L := fun r => r = 17) hA κ (r := 17) rfl x
      have r17 : ∀ {κ κ1 : Cz}, Chg A (fun r => r = 17) κ κ1 → Chg A LRu κ κ1 := fun g => g.mono (fun r z => by unfold LRu; omega)
      have r158 : ∀ {κ κ1 : Cz}, Chg A (fun r => r = 15 ∨ r = 18) κ κ1 → Chg A LRu κ κ1 := fun g => g.mono (fun r z => by unfold LRu; omega)
      have g158 : ∀ {κ : Cz} {x : Nat → Int32} {y : Int32}, Chg A (fun r => r = 15 ∨ r = 18) κ (sfi (A 15) 5 y (sai (A 18) x κ)) := fun {κ x y} => (Chg.sai (L := fun r => r = 15 ∨ r = 18) hA κ (r := 18) (Or.inr rfl) x).trans (Chg.sfi (L := fun r => r = 15 ∨ r = 18) hA _ (r := 15) (Or.inl rfl) 5 y)
      rcases o2 with ⟨rfl, k2, l1, v1, K2, hk2, ty1⟩ | ⟨rfl, F, fX, gF⟩
      · rw [if_neg ne10]
        obtain ⟨D2, f52⟩ := K2.2.1.to0
        have z2 : fi κ2 (A 15) 4 = nI (cs ++ l1).length := D2.2.2.2.1
        have x5 : gi 5 μ2 = nI R := D2.2.1
        have x2 : ga 2 μ2 R = nI (cs ++ l1).length := D2.2.2.1
        have hs3 := hs2.chg (g17 (κ := κ2) (x := upd (ai κ2 (A 17)) c (nI (cs ++ l1).length)))
        have T2 := K2.1.2.1
        have T3 := T2.chg (g17 (κ := κ2) (x := upd (ai κ2 (A 17)) c (nI (cs ++ l1).length))) (fun r z1 z2 z3 => by omega)
        have i16 : p_Tokens_isWord N (A 2) 16 (sai (A 17) (upd (ai κ2 (A 17)) c (nI (cs ++ l1).length)) κ2) = _ := c_isWord N hs3 T3 (w := 16) (by decide)
        rw [c_15 N (f := f + 1) hs g5 hc i15 e1 hs1 e2 hs2 z2 f52, i16, bd_s]
        generalize hκ3 : sai (A 17) (upd (ai κ2 (A 17)) c (nI (cs ++ l1).length)) κ2 = κ3 at *
        have c3 : Chg A (fun r => r = 17) κ2 κ3 := by rw [← hκ3]; exact g17
        have a17 : ai κ3 (A 17) = upd (ai κ (A 17)) c (nI (cs ++ l1).length) := by
          rw [← hκ3, ai_ai, if_pos rfl, c2.ai (by unfold LSm; omega), c1.ai (by unfold Lt5; omega)]
        have a18 : ai κ3 (A 18) = ai κ (A 18) := by
          rw [c3.ai (by omega), c2.ai (by unfold LSm; omega), c1.ai (by unfold Lt5; omega)]
        have CC3 : Chg A LRu κ κ3 := ((lt_r c1).trans (lsm_r c2)).trans (r17 c3)
        simp -implicitDefEqProofs only [lt_s9, x5, inbT (show R < 7 by omega) (by decide), ck_1, clN (show R < 2147483648 by omega), x2, inbT (show 48 * R + 4 * c + 1 < 288 by omega) (by decide), clN (show 48 * R + 4 * c + 1 < 2147483648 by omega), inbT (show 48 * R + 4 * c + 2 < 288 by omega) (by decide), clN (show 48 * R + 4 * c + 2 < 2147483648 by omega), ga_sa, sa_sa]
        have kp2 : KP R G H Q μ2 := kp1.mf M2 (by unfold IS; omega) (by unfold J12; omega) (by unfold J12; omega) hR w5
        have M02 : MF IRu JRu μ μ2 := M1.trans (it_r (is_t M2))
        have a32 : ga 3 μ2 = upd (ga 3 μ) (48 * R + 4 * c) (nI cs.length) := (M2.2.1 3 (by unfold J12; omega)).trans a31
        have a42 : ga 4 μ2 = ga 4 μ := (M2.2.1 4 (by unfold J12; omega)).trans a41
        have a82 : gi 8 μ2 = nI (c + 1) := (M2.1 8 (by unfold IS; omega)).trans a81
        generalize hμ3 : sa 3 (upd (upd (ga 3 μ2) (48 * R + 4 * c + 1) (nI (cs ++ l1).length)) (48 * R + 4 * c + 2) (-1)) μ2 = μ3 at *
        have M23 : MF IRu JRu μ2 μ3 := by rw [← hμ3]; exact mf_r3 _ _
        have J3 : PJ B t n k2 A κ3 μ3 := by rw [← hμ3]; exact (K2.1.sa (by decide) _).chg c3 (fun r z1 z2 z3 => by omega)
        have C3 : RC R (upd G 2400 (nI c)) (cs ++ l1) v1 A κ3 μ3 := by rw [← hμ3]; exact (K2.2.1.s3 _).chg c3 (by omega) (by omega)
        have kp3 : KP R G H Q μ3 := by
          rw [← hμ3, ← sa_sa 3 _ (upd (ga 3 μ2) (48 * R + 4 * c + 1) (nI (cs ++ l1).length))]
          have q := kp2.s3 (a := 48 * R + 4 * c + 1) (by omega) (nI (cs ++ l1).length)
          have q2 := q.s3 (a := 48 * R + 4 * c + 2) (by omega) (-1)
          rw [ga_sa] at q2
          exact q2
        have a33 : ∀ j, ga 3 μ3 j = if j = 48 * R + 4 * c + 2 then -1 else if j = 48 * R + 4 * c + 1 then nI (cs ++ l1).length else if j = 48 * R + 4 * c then nI cs.length else ga 3 μ j := fun j => by rw [← hμ3, ga_sa, a32, upd_at, upd_at, upd_at]
        have a43 : ga 4 μ3 = ga 4 μ := by rw [← hμ3, ga_sa_ne (by decide)]; exact a42
        have a83 : gi 8 μ3 = nI (c + 1) := by rw [← hμ3]; exact a82
        have J3s := J3.see
        have h23 : gi 2 (si 2 (nI (plc B t k2)) μ3) = nI (plc B t k2) := gi_si _ _ _
        have w16 := m_isWord N hN J3.2.2.1 (code := CD 16) J3.2.2.2.2.choose_spec.1 J3.2.2.2.2.choose_spec.2.1 26982 (by decide) (by decide)
        rw [J3.2.2.2.2.choose_spec.2.2] at w16
        have C3s := C3.sI (j := 2) (by decide) (by decide) (nI (plc B t k2))
        have M03s : MF IRu JRu μ (si 2 (nI (plc B t k2)) μ3) := (M02.trans M23).trans (MF.si (by unfold IRu; omega) _ _)
        have TW : p12_takesWord N 26982 μ3 = if isW B t (plc B t k2) (CD 16) = true then bo (p12_passWord N (si 2 (nI (plc B t k2)) μ3)) (fun μ2 => some (1, μ2)) else some (0, si 2 (nI (plc B t k2)) μ3) := by
          unfold p12_takesWord
          rw [w16, bd_s, ite10]
        rw [TW]
        have hlen : (cs ++ l1).length = cs.length + l1.length := List.length_append
        -- the end of the clause
        have fin : ∀ (κ5 : Cz) (μ5 : Mz) (k5 v5 : Nat) (e5 : List Nat) (x : Int32), k < k5 → PJ B t n k5 A κ5 μ5 → RC R (upd G 2400 (nI c)) (cs ++ (l1 ++ e5)) v5 A κ5 μ5 → (cs ++ (l1 ++ e5)).length ≤ k5 → ai κ5 (A 17) = upd (ai κ (A 17)) c (nI (cs ++ l1).length) → ai κ5 (A 18) = ai κ (A 18) → ga 4 μ5 = ga 4 μ → gi 8 μ5 = nI (c + 1) → (∀ j, ga 3 μ5 j = if j = 48 * R + 4 * c + 2 then x else if j = 48 * R + 4 * c + 1 then nI (cs ++ l1).length else if j = 48 * R + 4 * c then nI cs.length else ga 3 μ j) → (x = if (cs ++ l1).length = (cs ++ (l1 ++ e5)).length then -1 else nI (cs ++ l1).length) → (0 < e5.length → ∀ st, tyL e5 st = some (true :: st)) → Chg A LRu κ κ5 → MF IRu JRu μ μ5 → ∃ (κ1 : Cz) (μ1 : Mz) (k1 : Nat) (s1 en1 : Nat → Nat) (cs1 : List Nat) (v1 : Nat), k < k1 ∧ c < 12 ∧ b_RuleReader_readRule_100 N (b_RuleReader_readRule_15 N (f + 1)) (A 15) κ5 = (if fi κ1 (A 2) 5 = 0 then some (0, κ1) else bo (p_Tokens_takeSign N (A 2) 59 κ1) (fun κ49 => b_RuleReader_readRule_15 N (f + 1) (A 15) κ49)) ∧ b12_isMendHere_110 N (nI (48 * R + 4 * c)) μ5 = some (1, μ1) ∧ RM B t n k1 R (c + 1) G H Q s1 en1 cs1 v1 A κ1 μ1 ∧ Chg A LRu κ κ1 ∧ MF IRu JRu μ μ1 := by
          intro κ5 μ5 k5 v5 e5 x hk5 J5 C5 hb5 b17 b18 b4 b8 b3 hx hty CC5 MM5
          obtain ⟨D5, f5⟩ := C5.to0
          have hs5 := J5.1
          have z5 : fi κ5 (A 15) 4 = nI (cs ++ (l1 ++ e5)).length := D5.2.2.2.1
          have y5 : gi 5 μ5 = nI R := D5.2.1
          have y2 : ga 2 μ5 R = nI (cs ++ (l1 ++ e5)).length := D5.2.2.1
          have y4 : ga 4 μ5 R = nI c := by rw [b4]; exact g4
          have cg := g158 (κ := κ5) (x := upd (ai κ5 (A 18)) c (nI (cs ++ (l1 ++ e5)).length)) (y := nI (c + 1))
          have k5f : fi (sfi (A 15) 5 (nI (c + 1)) (sai (A 18) (upd (ai κ5 (A 18)) c (nI (cs ++ (l1 ++ e5)).length)) κ5)) (A 2) 5 = fi κ5 (A 2) 5 := by rw [cg.fi (by omega)]
          have m110 := m_110 N (a := 48 * R + 4 * c) hR (by omega) y5 y2 y4
          have Mf : MF IRu JRu μ5 (sa 4 (upd (ga 4 μ5) R (nI (c + 1))) (sa 3 (upd (ga 3 μ5) (48 * R + 4 * c + 3) (nI (cs ++ (l1 ++ e5)).length)) μ5)) := (mf_r3 _ _).trans (MF.sa (by unfold JRu; omega) _ _)
          have cl := CLs.mk (cs := cs) ty1 hty
          have Mq : MF (fun _ => False) (fun k => k = 3 ∨ k = 4) μ5 (sa 4 (upd (ga 4 μ5) R (nI (c + 1))) (sa 3 (upd (ga 3 μ5) (48 * R + 4 * c + 3) (nI (cs ++ (l1 ++ e5)).length)) μ5)) := (MF.sa (I := fun _ => False) (J := fun k => k = 3 ∨ k = 4) (k := 3) (Or.inl rfl) _ _).trans (MF.sa (I := fun _ => False) (J := fun k => k = 3 ∨ k = 4) (k := 4) (Or.inr rfl) _ _)
          have D6 : RC0 R G (cs ++ (l1 ++ e5)) v5 A (sfi (A 15) 5 (nI (c + 1)) (sai (A 18) (upd (ai κ5 (A 18)) c (nI (cs ++ (l1 ++ e5)).length)) κ5)) (sa 4 (upd (ga 4 μ5) R (nI (c + 1))) (sa 3 (upd (ga 3 μ5) (48 * R + 4 * c + 3) (nI (cs ++ (l1 ++ e5)).length)) μ5)) := by
            obtain ⟨d1, d2, d3, d4, d5, d6, d7, d8, d9, d10⟩ := D5
            refine ⟨d1, d2, ?_, ?_, ?_, ?_, ?_, d8, d9, d10⟩
            · rw [Mq.2.1 2 (by omega)]; exact d3
            · rw [fi_fi, if_neg (by simp), fi_ai]; exact d4
            · rw [cg.ai (by omega), Mq.2.1 1 (by omega)]; exact d5
            · rw [Mq.2.1 1 (by omega)]; exact d6
            · rw [fi_fi, if_neg (by simp), fi_ai]; exact d7
          obtain ⟨s1, en1, rm⟩ := rl_end (z1 := (cs ++ l1).length) (x := x) hM hc ((J5.mf Mq id id id (by omega)).chg cg (fun r z1 z2 z3 => by omega)) D6 hb5 (by rw [fi_fi, if_pos ⟨rfl, rfl⟩]) (by rw [ga_sa, b4]) b8 (by rw [ai_fi, ai_ai, if_neg (hA.ne (by decide)), b17]) (by rw [ai_fi, ai_ai, if_pos rfl, b18]) (fun j => by rw [ga_sa_ne (by decide), ga_sa, upd_at, b3]) hx (by
            have e9 : (cs ++ (l1 ++ e5)).length = cs.length + l1.length + e5.length := by rw [List.length_append, List.length_append]; omega
            rw [hlen, e9, ← List.append_assoc]
            exact cl)
          exact ⟨_, _, k5, s1, en1, _, v5, hk5, hc, by rw [c_100 N hs5 z5 f5 hc, k5f], m110, rm, CC5.trans (r158 cg), MM5.trans Mf⟩
        by_cases w : isW B t (plc B t k2) (CD 16) = true
        · rw [if_pos w]
          simp -implicitDefEqProofs only [if_neg ne10, if_pos w]
          obtain ⟨κ4, e4, pw4, J4, c4⟩ := word_S N hN J3s h23 w
          have hs4 := hs3.chg c4
          rw [pw4, bo_s, bd_s, if_neg ne10]
          generalize hμ4 : si 2 (nI (runTo smB B t (plc B t k2))) (si 2 (nI (plc B t k2)) μ3) = μ4 at *
          have M34 : MF IRu JRu μ3 μ4 := by rw [← hμ4]; exact (MF.si (by unfold IRu; omega) _ _).trans (MF.si (by unfold IRu; omega) _ _)
          have C4 : RC R (upd G 2400 (nI c)) (cs ++ l1) v1 A κ4 μ4 := by rw [← hμ4]; exact (C3s.sI (by decide) (by decide) _).chg c4 (by unfold Lt5; omega) (by unfold Lt5; omega)
          have v5 : gi 5 μ4 = nI R := C4.2.1
          have v2 : ga 2 μ4 R = nI (cs ++ l1).length := C4.2.2.1
          have a34 : ga 3 μ4 = ga 3 μ3 := by rw [← hμ4]; rfl
          have a44 : ga 4 μ4 = ga 4 μ := by rw [← hμ4]; exact a43
          have a84 : gi 8 μ4 = nI (c + 1) := by rw [← hμ4, gi_si_ne (by decide), gi_si_ne (by decide)]; exact a83
          have kp4 : KP R G H Q μ4 := by rw [← hμ4]; exact kp3
          simp -implicitDefEqProofs only [lt_s9, v5, inbT (show R < 7 by omega) (by decide), ck_1, clN (show R < 2147483648 by omega), v2, inbT (show 48 * R + 4 * c + 2 < 288 by omega) (by decide), clN (show 48 * R + 4 * c + 2 < 2147483648 by omega), hs3.rR, hs3.tk, bo_s, e4, hs4.rR]
          have hb2 := K2.2.2
          have K4 : RK B t n (k2 + 1) R (upd G 2400 (nI c)) 0 (cs ++ l1) v1 A κ4 (sa 3 (upd (ga 3 μ4) (48 * R + 4 * c + 2) (nI (cs ++ l1).length)) μ4) := ⟨J4.sa (by decide) _, C4.s3 _, by omega⟩
          have kp5 := kp4.s3 (a := 48 * R + 4 * c + 2) (by omega) (nI (cs ++ l1).length)
          have M05 : MF IRu JRu μ (sa 3 (upd (ga 3 μ4) (48 * R + 4 * c + 2) (nI (cs ++ l1).length)) μ4) := ((M02.trans M23).trans M34).trans (mf_r3 _ _)
          obtain ⟨r, κ5, μ5, e5, m5, c5, M5, o5⟩ := test_both N hN (by omega) K4
          rw [e5, bo_s, m5, bd_s]
          have hs5 := hs4.chg c5
          have M55 : MF IRu JRu μ μ5 := M05.trans (it_r M5)
          have CC5 : Chg A LRu κ κ5 := (CC3.trans (lt_r c4)).trans (lsm_r c5)
          have kp6 : KP R G H Q μ5 := kp5.mf M5 (by unfold IT IS; omega) (by unfold JT J12; omega) (by unfold JT J12; omega) hR v5
          rcases o5 with ⟨rfl, k5, l5, v5', K5, hk5, ty5⟩ | ⟨rfl, F, fX, gF⟩
          · left
            rw [if_neg ne10]
            have e2l : 0 < l5.length := by
              cases l5 with
              | nil => exact absurd (ty5 []) (by rw [tyL]; exact fun z => (nomatch z))
              | cons a b => exact Nat.succ_pos _
            have hll : (cs ++ (l1 ++ l5)).length = cs.length + l1.length + l5.length := by rw [List.length_append, List.length_append]; omega
            have K5b := K5.2.2
            rw [List.append_assoc] at K5b
            obtain ⟨κ6, μ6, k6, s6, en6, cs6, v6, q1, q2, q3, q4, q5, q6, q7⟩ := fin κ5 μ5 k5 v5' l5 (nI (cs ++ l1).length) (by omega) K5.1 (by rw [← List.append_assoc]; exact K5.2.1) (by omega) (by rw [c5.ai (by unfold LSm; omega), c4.ai (by unfold Lt5; omega)]; exact a17) (by rw [c5.ai (by unfold LSm; omega), c4.ai (by unfold Lt5; omega)]; exact a18) (by rw [M5.2.1 4 (by unfold JT J12; omega), ga_sa_ne (by decide)]; exact a44) (by rw [M5.1 8 (by unfold IT IS; omega), gi_sa]; exact a84) (fun j => by
              rw [M5.2.1 3 (by unfold JT J12; omega), ga_sa, upd_at, a34]
              by_cases y : j = 48 * R + 4 * c + 2
              · rw [if_pos y, if_pos y]
              · rw [if_neg y, if_neg y, a33, if_neg y]) (by rw [if_neg (by omega)]) (fun _ => ty5) CC5 M55
            exact ⟨κ6, μ6, k6, s6, en6, cs6, v6, q1, q2, q3, by rw [q4, bd_s]; rfl, q5, q6, q7⟩
          · right
            rw [if_pos rfl]
            obtain ⟨fF, ⟨z, hz, h4z⟩, c0, hc0, h5c⟩ := fX
            have cg := g158 (κ := κ5) (x := upd (ai κ5 (A 18)) c0 (nI z)) (y := nI (c0 + 1))
            have hs6 := hs5.chg cg
            have f6 := fF.chg cg (by omega)
            refine ⟨F, sfi (A 15) 5 (nI (c0 + 1)) (sai (A 18) (upd (ai κ5 (A 18)) c0 (nI z)) κ5), μ5, fF.2.1, fF.2.2.1, ?_, rfl, gF, CC5.trans (r158 cg), M55, kp6⟩
            rw [c_100 N hs5 h4z h5c hc0, if_neg (by rw [fF.2.2.2]; decide), f_takeSign N hs6 f6, bo_s, f_15 N (c := 0) hs6 f6]
        · left
          rw [if_neg w]
          simp -implicitDefEqProofs only [if_neg w, if_true]
          rw [bd_s, if_pos rfl]
          have hb2 := K2.2.2
          have hll : (cs ++ (l1 ++ ([] : List Nat))).length = (cs ++ l1).length := by rw [List.append_nil]
          obtain ⟨κ6, μ6, k6, s6, en6, cs6, v6, q1, q2, q3, q4, q5, q6, q7⟩ := fin κ3 (si 2 (nI (plc B t k2)) μ3) k2 v1 [] (-1) (by omega) J3s (by rw [List.append_nil]; exact C3s) (by omega) a17 a18 a43 (by rw [gi_si_ne (by decide)]; exact a83) a33 (by rw [if_pos hll.symm]) (fun z => absurd z (by simp)) CC3 M03s
          exact ⟨κ6, μ6, k6, s6, en6, cs6, v6, q1, q2, q3, by rw [q4, bd_s]; rfl, q5, q6, q7⟩
      · right
        rw [if_pos rfl, bd_s, ck_t b01_0]
        obtain ⟨fF, ⟨z, hz, h4z⟩, c0, hc0, h5c⟩ := fX
        have cc : Chg A (fun r => r = 17) κ2 (sai (A 17) (upd (ai κ2 (A 17)) c0 (nI z)) κ2) := g17
        have hs3 := hs2.chg cc
        have f3 := fF.chg cc (by omega)
        have h43 : fi (sai (A 17) (upd (ai κ2 (A 17)) c0 (nI z)) κ2) (A 15) 4 = nI z := h4z
        have h53 : fi (sai (A 17) (upd (ai κ2 (A 17)) c0 (nI z)) κ2) (A 15) 5 = nI c0 := h5c
        have cg := g158 (κ := sai (A 17) (upd (ai κ2 (A 17)) c0 (nI z)) κ2) (x := upd (ai (sai (A 17) (upd (ai κ2 (A 17)) c0 (nI z)) κ2) (A 18)) c0 (nI z)) (y := nI (c0 + 1))
        have hs4 := hs3.chg cg
        have f4 := f3.chg cg (by omega)
        have kp2 : KP R G H Q μ2 := kp1.mf M2 (by unfold IS; omega) (by unfold J12; omega) (by unfold J12; omega) hR w5
        refine ⟨F, _, μ2, fF.2.1, fF.2.2.1, ?_, rfl, gF, (((lt_r c1).trans (lsm_r c2)).trans (r17 cc)).trans (r158 cg), M1.trans (it_r (is_t M2)), kp2⟩
        rw [b_RuleReader_readRule_15]
        simp -implicitDefEqProofs only [hs.rR, hs.tk, ck_1, bo_s, g5, i15, bd_s, e1, hs1.rR, e2, hs2.rR, h4z, h5c, lt_s9, inbT hc0 (by decide), clN (show c0 < 2147483648 by omega), hs3.rR, hs3.tk, f_isWord N hs3 f3, if_true]
        rw [if_neg (show ¬ (12 : Int32) ≤ nI c from nI_ge (b := 12) hc (by omega)), if_neg ne10, c_100 N hs3 h43 h53 hc0, if_neg (by rw [f3.2.2.2]; decide), f_takeSign N hs4 f4, bo_s, f_15 N (c := 0) hs4 f4]
  · right
    rw [if_neg w15]
    rw [if_neg w15] at i15
    obtain ⟨κ1, e1, f1, c1, q1, q2, q3⟩ := fx 0 (by decide)
    have e1' : p_Tokens_fail N (A 2) 0 κ = some κ1 := e1
    have hs1 := hs.chg c1
    refine ⟨_, κ1, _, f1.2.1, f1.2.2.1, ?_, rfl, q1, lt_r c1, q2, q3⟩
    rw [b_RuleReader_readRule_15]
    simp -implicitDefEqProofs only [hs.rR, hs.tk, ck_1, bo_s, g5, i15, bd_s, e1', hs1.rR, hs1.tk, f1.1, if_true]
    split <;> rfl
