/-! a rule is read: a clause -/
theorem rl_end {B : Nat → Nat} {t n k k1 R c : Nat} {G H Q : Nat → Int32} {s en : Nat → Nat} {cs e : List Nat} {v v2 z1 : Nat} {x : Int32} {A : Nat → Nat} {κ κ5 : Cz} {μ μ5 : Mz} (hM : RM B t n k R c G H Q s en cs v A κ μ) (hc : c < 12) (J5 : PJ B t n k1 A κ5 μ5) (C5 : RC0 R G (cs ++ e) v2 A κ5 μ5) (hb : (cs ++ e).length ≤ k1) (h5 : fi κ5 (A 15) 5 = nI (c + 1)) (h4 : ga 4 μ5 = upd (ga 4 μ) R (nI (c + 1))) (h8 : gi 8 μ5 = nI (c + 1)) (h17 : ai κ5 (A 17) = upd (ai κ (A 17)) c (nI z1)) (h18 : ai κ5 (A 18) = upd (ai κ (A 18)) c (nI (cs ++ e).length)) (h3 : ∀ j, ga 3 μ5 j = if j = 48 * R + 4 * c + 3 then nI (cs ++ e).length else if j = 48 * R + 4 * c + 2 then x else if j = 48 * R + 4 * c + 1 then nI z1 else if j = 48 * R + 4 * c then nI cs.length else ga 3 μ j) (hx : x = if z1 = (cs ++ e).length then -1 else nI z1) (cl : CLs (cs ++ e) cs.length z1 (cs ++ e).length) : ∃ s1 en1, RM B t n k1 R (c + 1) G H Q s1 en1 (cs ++ e) v2 A κ5 μ5 := by
  obtain ⟨hJ, hC, hk, h12, g5, g4, g8, e0, ec, hr, hH, hQ⟩ := hM
  refine ⟨fun i => if i = c then z1 else s i, fun i => if i = c + 1 then (cs ++ e).length else en i, J5, C5, hb, by omega, h5, by rw [h4, upd_at, if_pos rfl], h8, ?_, ?_, ?_, ?_, ?_⟩
  · show (if 0 = c + 1 then (cs ++ e).length else en 0) = 0
    rw [if_neg (by omega)]; exact e0
  · show (if c + 1 = c + 1 then (cs ++ e).length else en (c + 1)) = (cs ++ e).length
    rw [if_pos rfl]
  · intro i hi
    show ai κ5 (A 17) i = nI (if i = c then z1 else s i) ∧ ai κ5 (A 18) i = nI (if i + 1 = c + 1 then (cs ++ e).length else en (i + 1)) ∧ ga 3 μ5 (48 * R + 4 * i) = nI (if i = c + 1 then (cs ++ e).length else en i) ∧ ga 3 μ5 (48 * R + 4 * i + 1) = nI (if i = c then z1 else s i) ∧ ga 3 μ5 (48 * R + 4 * i + 2) = (if (if i = c then z1 else s i) = (if i + 1 = c + 1 then (cs ++ e).length else en (i + 1)) then -1 else nI (if i = c then z1 else s i)) ∧ ga 3 μ5 (48 * R + 4 * i + 3) = nI (if i + 1 = c + 1 then (cs ++ e).length else en (i + 1)) ∧ CLs (cs ++ e) (if i = c + 1 then (cs ++ e).length else en i) (if i = c then z1 else s i) (if i + 1 = c + 1 then (cs ++ e).length else en (i + 1))
    rw [h17, h18, upd_at, upd_at, if_neg (show ¬ i = c + 1 by omega)]
    by_cases q : i = c
    · subst q
      rw [h3, h3, h3, h3, if_pos rfl, if_pos rfl, if_pos rfl, if_pos rfl, if_neg (by omega), if_neg (by omega), if_neg (by omega), if_pos rfl, if_neg (by omega), if_neg (by omega), if_pos rfl, if_neg (by omega), if_pos rfl, if_pos rfl, ec]
      exact ⟨rfl, rfl, rfl, rfl, hx, rfl, cl⟩
    · obtain ⟨r1, r2, r3, r4, r5, r6, r7⟩ := hr i (by omega)
      have o : ∀ j, j < 48 * R + 4 * c → ga 3 μ5 j = ga 3 μ j := fun j hj => by rw [h3, if_neg (by omega), if_neg (by omega), if_neg (by omega), if_neg (by omega)]
      rw [if_neg q, if_neg q, if_neg q, if_neg (show ¬ i + 1 = c + 1 by omega), o _ (by omega), o _ (by omega), o _ (by omega), o _ (by omega)]
      exact ⟨r1, r2, r3, r4, r5, r6, r7.app e⟩
  · intro j hj
    rw [h3, if_neg (by omega), if_neg (by omega), if_neg (by omega), if_neg (by omega)]
    exact hH j hj
  · intro j hj
    rw [h4, upd_at, if_neg hj]
    exact hQ j hj
theorem m_clauseR (N : Nat) (hN : 20000 ≤ N) {B : Nat → Nat} {t n k R c : Nat} {A : Nat → Nat} {κ : Cz} {μ : Mz} (hJ : PJ B t n k A κ μ) (hR : R < 6) (h5 : gi 5 μ = nI R) (h8 : gi 8 μ = nI c) (hc : c ≤ 12) : p12_clauseHere N μ = if isW B t (plc B t k) (CD 15) = true then (if c = 12 then some (0, flt 4 (plc B t k) (si 2 (nI (plc B t k)) μ)) else bd (p12_isMendHere N (si 8 (nI (c + 1)) (si 2 (nI (plc B t k)) μ))) (fun r5 μ5 => ck (b01 r5) (some (r5, μ5)))) else some (0, flt 0 (plc B t k) (si 2 (nI (plc B t k)) μ)) := by
  have Js := hJ.see
  have h2s : gi 2 (si 2 (nI (plc B t k)) μ) = nI (plc B t k) := gi_si _ _ _
  have s5 : gi 5 (si 2 (nI (plc B t k)) μ) = nI R := by rw [gi_si_ne (by decide)]; exact h5
  have s8 : gi 8 (si 2 (nI (plc B t k)) μ) = nI c := by rw [gi_si_ne (by decide)]; exact h8
  have w15 := m_wordS N hN Js h2s 1835363940 (code := CD 15) (by decide) (by decide)
  unfold p12_clauseHere
  rw [m_seeJ N hN hJ, bd_s, lt_s9, s5, if_neg (show ¬ nI R = 6 from fun z => by have := (nI_eq (by omega) (by omega)).mp (show nI R = nI 6 from z); omega)]
  unfold b12_clauseHere_24
  rw [if_pos rfl, w15, bd_s, ite10, gi_si, m_fails N (w := 0) 0 rfl, bd_s, ck_t b01_0]
  unfold b12_clauseHere_56 b12_clauseHere_71
  rw [if_pos rfl, s8, m_fails N (w := 4) 4 rfl, bd_s, ck_t b01_0, lt_s9, if_pos rfl, nI_1]
  by_cases a : isW B t (plc B t k) (CD 15) = true
  · rw [if_pos a, if_pos a]
    by_cases q : c = 12
    · subst q
      rw [if_pos (show nI 12 = 12 from rfl), if_pos rfl]
    · rw [if_neg (show ¬ nI c = 12 from fun z => q ((nI_eq (by omega) (by omega)).mp (show nI c = nI 12 from z))), if_neg q]
  · rw [if_neg a, if_neg a]
theorem m_110 (N : Nat) {R c b a : Nat} {μ : Mz} (hR : R < 6) (ha : a + 3 < 288) (h5 : gi 5 μ = nI R) (h2 : ga 2 μ R = nI b) (h4 : ga 4 μ R = nI c) : b12_isMendHere_110 N (nI a) μ = some (1, sa 4 (upd (ga 4 μ) R (nI (c + 1))) (sa 3 (upd (ga 3 μ) (a + 3) (nI b)) μ)) := by
  have e3 : nI a + 3 = nI (a + 3) := by rw [show (3 : Int32) = nI 3 from rfl, nI_add]
  unfold b12_isMendHere_110
  simp -implicitDefEqProofs only [lt_s9, h5, inbT (show R < 7 by omega) (by decide), inbT (show R < 6 by omega) (by decide), ck_1, clN (show R < 2147483648 by omega), h2, e3, inbT ha (by decide), clN (show a + 3 < 2147483648 by omega), gi_sa, ga_sa_ne (show 4 ≠ 3 by decide), h4, nI_1]
/-- the class reads a clause as far as its sum -/
theorem c_15 (N : Nat) {f z c : Nat} {A : Nat → Nat} {κ κ1 κ2 : Cz} (hs : Sh κ A) (h5 : fi κ (A 15) 5 = nI c) (hc : c < 12) (hw : p_Tokens_isWord N (A 2) 15 κ = some (1, κ)) (e1 : p_Tokens_goOn N (A 2) κ = some κ1) (hs1 : Sh κ1 A) (e2 : p_RuleReader_readSum N (A 15) κ1 = some κ2) (hs2 : Sh κ2 A) (z2 : fi κ2 (A 15) 4 = nI z) (c2 : fi κ2 (A 15) 5 = nI c) : b_RuleReader_readRule_15 N (f + 1) (A 15) κ = bd (p_Tokens_isWord N (A 2) 16 (sai (A 17) (upd (ai κ2 (A 17)) c (nI z)) κ2)) (fun r36 κ36 => if r36 = 0 then b_RuleReader_readRule_100 N (b_RuleReader_readRule_15 N f) (A 15) κ36 else ck (isK κ36 (A 15) 7) (bo (fr κ36 (A 15) 0) (fun o52 => ck (isK κ36 o52 9) (bo (p_Tokens_goOn N o52 κ36) (fun κ53 => ck (isK κ53 (A 15) 7) (bo (p_RuleReader_readTest N (A 15) 0 κ53) (fun κ55 => b_RuleReader_readRule_100 N (b_RuleReader_readRule_15 N f) (A 15) κ55))))))) := by
  have hA := hs.inj
  have hs3 := hs2.chg (Chg.sai (L := fun r => r = 17) hA κ2 (r := 17) rfl (upd (ai κ2 (A 17)) c (nI z)))
  rw [b_RuleReader_readRule_15]
  simp -implicitDefEqProofs only [hs.rR, hs.tk, ck_1, bo_s, h5, hw, bd_s, e1, hs1.rR, e2, hs2.rR, z2, c2, lt_s9, inbT hc (by decide), clN (show c < 2147483648 by omega), hs3.rR, hs3.tk]
  rw [if_neg (show ¬ (12 : Int32) ≤ nI c from nI_ge (b := 12) hc (by omega)), if_neg ne10]
theorem mf_r3 (f : Nat → Int32) (μ : Mz) : MF IRu JRu μ (sa 3 f μ) := MF.sa (I := IRu) (J := JRu) (k := 3) (by unfold JRu; omega) _ _
theorem RC.s3 {R : Nat} {G : Nat → Int32} {cs : List Nat} {v : Nat} {A : Nat → Nat} {κ : Cz} {μ : Mz} (h : RC R G cs v A κ μ) (f : Nat → Int32) : RC R G cs v A κ (sa 3 f μ) := h.mf (I := fun _ => False) (J := fun k => k = 3) (MF.sa (I := fun _ => False) (J := fun k => k = 3) (k := 3) rfl _ _) id id (by decide) (by decide)
