def SIM (N : Nat) (Rel : Nat → Cz → Mz → Prop) : Prop := ∀ x0 : Nat, (∀ κ μ, Rel x0 κ μ → isK κ x0 11 = true) ∧ Sm_feed N x0 (Rel x0) ∧ Sm_end N x0 (Rel x0) ∧ Sm_book N x0 (Rel x0) ∧ Sm_rule N x0 (Rel x0) ∧ Sm_force N x0 (Rel x0) ∧ Sm_letter N x0 (Rel x0) ∧ Sm_habit N x0 (Rel x0) ∧ Sm_edition N x0 (Rel x0) ∧ Sm_set N x0 (Rel x0) ∧ Sm_mend N x0 (Rel x0) ∧ Sm_hang N x0 (Rel x0) ∧ Sm_fill N x0 (Rel x0) ∧ Sm_undo N x0 (Rel x0) ∧ Sm_ahead N x0 (Rel x0) ∧ Sm_allRight N x0 (Rel x0) ∧ Sm_firstRight N x0 (Rel x0) ∧ Sm_unpaid N x0 (Rel x0) ∧ Sm_row N x0 (Rel x0) ∧ Sm_rings N x0 (Rel x0) ∧ Sm_twice N x0 (Rel x0) ∧ Sm_apart N x0 (Rel x0) ∧ Sm_one N x0 (Rel x0) ∧ Sm_leftOff N x0 (Rel x0) ∧ Sm_leastPurse N x0 (Rel x0) ∧ Sm_putAs N x0 (Rel x0) ∧ Sm_rests N x0 (Rel x0) ∧ Sm_ring N x0 (Rel x0) ∧ Sm_pence N x0 (Rel x0) ∧ Sm_note N x0 (Rel x0) ∧ Sm_ruled N x0 (Rel x0) ∧ Sm_look N x0 (Rel x0) ∧ Sm_seed N x0 (Rel x0) ∧ Sm_slips N x0 (Rel x0) ∧ Sm_count N x0 (Rel x0) ∧ Sm_image N x0 (Rel x0) ∧ Sm_back N x0 (Rel x0)
set_option maxHeartbeats 4000000 in
set_option maxRecDepth 100000 in
theorem law_loop {p : Program} {l : Launch} {e : Env} {s : State} {m : MethodId} {b L : Nat} {xs : Nat → Int32} {below : List Frame} {meth : Method} {c : Code} {D : va_G} {θ : Tc} {η : Th} {ad : Ad} {A : Nat → Prop} (K : KL p s m b c D θ η A) (hN : NX s) (hSC : SC ad A s s.heap) (hX : va_X b L xs s s.heap) (hbl : b < s.heap.size) (hbA : ¬ A b) (hr : meth.sig.returnType = ret) (hlk : meth.locks = false) (hAs : ∀ q, A q → s.heap.size ≤ q) (N x0 : Nat) (Rel : Nat → Cz → Mz → Prop) (hsim : SIM N Rel) (hL : L ≤ 3072) : ∀ (n t : Nat) (κ : Cz) (μ : Mz) (ce sl : Nat) (x3 : Int32), x3 = nI t → t ≤ L → L < t + 6 * n → ce + 17 * n ≤ 600000 → sl + 1608 * n ≤ 7302250 → Rel x0 κ μ → JL p l e s m b below meth c D θ η A ce sl κ μ [(0, .ref b), (1, .ref x0), (2, .ref η.1), (3, .int x3)] [] 18 := by
  obtain ⟨hK0, S0, S1, S2, S3, S4, S5, S6, S7, S8, S9, S10, S11, S12, S13, S14, S15, S16, S17, S18, S19, S20, S21, S22, S23, S24, S25, S26, S27, S28, S29, S30, S31, S32, S33, S34, S35⟩ := hsim x0
  intro n
  induction n with
  | zero =>
    intro t κ μ ce sl x3 hx3 ht hn
    exact absurd hn (by omega)
  | succ n ih =>
    intro t κ μ ce sl x3 hx3 ht hn hce hsl hR
    refine j_iload_n K 3 dL_18 rfl rfl ?_
    refine j_aload_n K 0 dL_19 rfl rfl ?_
    refine l_slen K hX hbl hbA dL_20 ?_
    refine j_bipush (v := 6) K dL_21 (by decide) ?_
    refine j_isub K dL_23 ?_
    refine j_icmp_gt (tgt := 1216) K dL_24 (by decide) (fun q => ?_) (fun q => ?_)
    · refine j_iconst (v := 1) K dL_1216 (by decide) ?_
      intro H locs ls hP hD hS h
      refine va_forget (fun q hq => hAs _ (hS.2.2 q hq)) ?_
      refine W.widen (k := 600000) (n := 7302250) (by omega) (by omega) ?_
      exact lw_ret K.1 K.2.1 hr hlk dL_1217
    · have ht6 : t + 6 ≤ L := by
        rcases Nat.lt_or_ge L (t + 6) with z | z
        · exfalso
          apply q
          rw [hx3, show (6 : Int32) = nI 6 from rfl]
          exact Int32.lt_iff_toInt_lt.mpr (by rw [pk_sub_toInt (by omega) (by omega), nI_toInt (by omega)]; omega)
        · exact z
      have kc : ∀ (κ1 : Cz) (μ1 : Mz), Rel x0 κ1 μ1 → JL p l e s m b below meth c D θ η A (ce + 17) (sl + 1608) κ1 μ1 [(0, .ref b), (1, .ref x0), (2, .ref η.1), (3, .int x3)] [] 1210 := by
        intro κ1 μ1 hR1
        refine j_iinc (k := 3) (v := x3 + 6) (lv' := [(3, .int (x3 + 6)), (0, .ref b), (1, .ref x0), (2, .ref η.1)]) K dL_1210 rfl rfl (by decide) rfl ?_
        refine j_goto (tgt := 18) K dL_1213 (by decide) ?_
        refine j_sub [1, 2, 3, 0] rfl ?_
        exact ih (t + 6) κ1 μ1 _ _ (x3 + 6) (by rw [hx3, show (6 : Int32) = nI 6 from rfl, nI_add]) ht6 (by omega) (by omega) (by omega) hR1
      refine j_aload_n K 0 dL_27 rfl rfl ?_
      refine j_iload_n K 3 dL_28 rfl rfl ?_
      refine l_sld K hX hbl hbA (by rw [hx3]; exact vp_in_nI (by omega) (by omega)) dL_29 ?_
      refine j_bipush (v := 63) K dL_30 (by decide) ?_
      refine j_iand K dL_32 ?_
      generalize (xs x3.toNatClampNeg &&& 63) = v
      by_cases hv : v.toInt < 0 ∨ 35 < v.toInt
      · refine j_tabOut (tgt := 1210) K dL_33 hv (by decide) ?_
        exact l_widen (by omega) (by omega) (kc κ μ hR)
      · obtain ⟨j, hj, rfl⟩ : ∃ j : Nat, j < 36 ∧ v = nI j := by
          obtain ⟨j, h1, h2⟩ := nI_of (x := v) (fun z => hv (Or.inl (by have := Int32.lt_iff_toInt_lt.mp z; simpa using this)))
          refine ⟨j, ?_, h2⟩
          rw [h2, nI_toInt h1] at hv
          omega
        match j, hj with
        | 0, _ => exact j_tabIn (tgt := 192) K dL_33 (by decide) (by decide) rfl (by decide) (law_feed K hN hSC hX hbl hbA N x0 (Rel x0) hK0 S0 hR hx3 ht6 hL (by omega) (by omega) kc)
        | 1, _ => exact j_tabIn (tgt := 255) K dL_33 (by decide) (by decide) rfl (by decide) (law_end K hN hSC hX hbl hbA N x0 (Rel x0) hK0 S1 hR hx3 ht6 hL (by omega) (by omega) kc)
        | 2, _ => exact j_tabIn (tgt := 278) K dL_33 (by decide) (by decide) rfl (by decide) (law_book K hN hSC hX hbl hbA N x0 (Rel x0) hK0 S2 hR hx3 ht6 hL (by omega) (by omega) kc)
        | 3, _ => exact j_tabIn (tgt := 291) K dL_33 (by decide) (by decide) rfl (by decide) (law_rule K hN hSC hX hbl hbA N x0 (Rel x0) hK0 S3 hR hx3 ht6 hL (by omega) (by omega) kc)
        | 4, _ => exact j_tabIn (tgt := 304) K dL_33 (by decide) (by decide) rfl (by decide) (law_force K hN hSC hX hbl hbA N x0 (Rel x0) hK0 S4 hR hx3 ht6 hL (by omega) (by omega) kc)
        | 5, _ => exact j_tabIn (tgt := 327) K dL_33 (by decide) (by decide) rfl (by decide) (law_letter K hN hSC hX hbl hbA N x0 (Rel x0) hK0 S5 hR hx3 ht6 hL (by omega) (by omega) kc)
        | 6, _ => exact j_tabIn (tgt := 360) K dL_33 (by decide) (by decide) rfl (by decide) (law_habit K hN hSC hX hbl hbA N x0 (Rel x0) hK0 S6 hR hx3 ht6 hL (by omega) (by omega) kc)
        | 7, _ => exact j_tabIn (tgt := 393) K dL_33 (by decide) (by decide) rfl (by decide) (law_edition K hN hSC hX hbl hbA N x0 (Rel x0) hK0 S7 hR hx3 ht6 hL (by omega) (by omega) kc)
        | 8, _ => exact j_tabIn (tgt := 406) K dL_33 (by decide) (by decide) rfl (by decide) (law_set K hN hSC hX hbl hbA N x0 (Rel x0) hK0 S8 hR hx3 ht6 hL (by omega) (by omega) kc)
        | 9, _ => exact j_tabIn (tgt := 439) K dL_33 (by decide) (by decide) rfl (by decide) (law_mend K hN hSC hX hbl hbA N x0 (Rel x0) hK0 S9 hR hx3 ht6 hL (by omega) (by omega) kc)
        | 10, _ => exact j_tabIn (tgt := 462) K dL_33 (by decide) (by decide) rfl (by decide) (law_hang K hN hSC hX hbl hbA N x0 (Rel x0) hK0 S10 hR hx3 ht6 hL (by omega) (by omega) kc)
        | 11, _ => exact j_tabIn (tgt := 495) K dL_33 (by decide) (by decide) rfl (by decide) (law_fill K hN hSC hX hbl hbA N x0 (Rel x0) hK0 S11 hR hx3 ht6 hL (by omega) (by omega) kc)
        | 12, _ => exact j_tabIn (tgt := 518) K dL_33 (by decide) (by decide) rfl (by decide) (law_undo K hN hSC hX hbl hbA N x0 (Rel x0) hK0 S12 hR hx3 ht6 hL (by omega) (by omega) kc)
        | 13, _ => exact j_tabIn (tgt := 531) K dL_33 (by decide) (by decide) rfl (by decide) (law_ahead K hN hSC hX hbl hbA N x0 (Rel x0) hK0 S13 hR hx3 ht6 hL (by omega) (by omega) kc)
        | 14, _ => exact j_tabIn (tgt := 574) K dL_33 (by decide) (by decide) rfl (by decide) (law_allRight K hN hSC hX hbl hbA N x0 (Rel x0) hK0 S14 hR hx3 ht6 hL (by omega) (by omega) kc)
        | 15, _ => exact j_tabIn (tgt := 587) K dL_33 (by decide) (by decide) rfl (by decide) (law_firstRight K hN hSC hX hbl hbA N x0 (Rel x0) hK0 S15 hR hx3 ht6 hL (by omega) (by omega) kc)
        | 16, _ => exact j_tabIn (tgt := 610) K dL_33 (by decide) (by decide) rfl (by decide) (law_unpaid K hN hSC hX hbl hbA N x0 (Rel x0) hK0 S16 hR hx3 ht6 hL (by omega) (by omega) kc)
        | 17, _ => exact j_tabIn (tgt := 633) K dL_33 (by decide) (by decide) rfl (by decide) (law_row K hN hSC hX hbl hbA N x0 (Rel x0) hK0 S17 hR hx3 ht6 hL (by omega) (by omega) kc)
        | 18, _ => exact j_tabIn (tgt := 666) K dL_33 (by decide) (by decide) rfl (by decide) (law_rings K hN hSC hX hbl hbA N x0 (Rel x0) hK0 S18 hR hx3 ht6 hL (by omega) (by omega) kc)
        | 19, _ => exact j_tabIn (tgt := 679) K dL_33 (by decide) (by decide) rfl (by decide) (law_twice K hN hSC hX hbl hbA N x0 (Rel x0) hK0 S19 hR hx3 ht6 hL (by omega) (by omega) kc)
        | 20, _ => exact j_tabIn (tgt := 702) K dL_33 (by decide) (by decide) rfl (by decide) (law_apart K hN hSC hX hbl hbA N x0 (Rel x0) hK0 S20 hR hx3 ht6 hL (by omega) (by omega) kc)
        | 21, _ => exact j_tabIn (tgt := 745) K dL_33 (by decide) (by decide) rfl (by decide) (law_one K hN hSC hX hbl hbA N x0 (Rel x0) hK0 S21 hR hx3 ht6 hL (by omega) (by omega) kc)
        | 22, _ => exact j_tabIn (tgt := 778) K dL_33 (by decide) (by decide) rfl (by decide) (law_leftOff K hN hSC hX hbl hbA N x0 (Rel x0) hK0 S22 hR hx3 ht6 hL (by omega) (by omega) kc)
        | 23, _ => exact j_tabIn (tgt := 811) K dL_33 (by decide) (by decide) rfl (by decide) (law_leastPurse K hN hSC hX hbl hbA N x0 (Rel x0) hK0 S23 hR hx3 ht6 hL (by omega) (by omega) kc)
        | 24, _ => exact j_tabIn (tgt := 834) K dL_33 (by decide) (by decide) rfl (by decide) (law_putAs K hN hSC hX hbl hbA N x0 (Rel x0) hK0 S24 hR hx3 ht6 hL (by omega) (by omega) kc)
        | 25, _ => exact j_tabIn (tgt := 857) K dL_33 (by decide) (by decide) rfl (by decide) (law_rests K hN hSC hX hbl hbA N x0 (Rel x0) hK0 S25 hR hx3 ht6 hL (by omega) (by omega) kc)
        | 26, _ => exact j_tabIn (tgt := 910) K dL_33 (by decide) (by decide) rfl (by decide) (law_ring K hN hSC hX hbl hbA N x0 (Rel x0) hK0 S26 hR hx3 ht6 hL (by omega) (by omega) kc)
        | 27, _ => exact j_tabIn (tgt := 933) K dL_33 (by decide) (by decide) rfl (by decide) (law_pence K hN hSC hX hbl hbA N x0 (Rel x0) hK0 S27 hR hx3 ht6 hL (by omega) (by omega) kc)
        | 28, _ => exact j_tabIn (tgt := 966) K dL_33 (by decide) (by decide) rfl (by decide) (law_note K hN hSC hX hbl hbA N x0 (Rel x0) hK0 S28 hR hx3 ht6 hL (by omega) (by omega) kc)
        | 29, _ => exact j_tabIn (tgt := 1009) K dL_33 (by decide) (by decide) rfl (by decide) (law_ruled K hN hSC hX hbl hbA N x0 (Rel x0) hK0 S29 hR hx3 ht6 hL (by omega) (by omega) kc)
        | 30, _ => exact j_tabIn (tgt := 1032) K dL_33 (by decide) (by decide) rfl (by decide) (law_look K hN hSC hX hbl hbA N x0 (Rel x0) hK0 S30 hR hx3 ht6 hL (by omega) (by omega) kc)
        | 31, _ => exact j_tabIn (tgt := 1065) K dL_33 (by decide) (by decide) rfl (by decide) (law_seed K hN hSC hX hbl hbA N x0 (Rel x0) hK0 S31 hR hx3 ht6 hL (by omega) (by omega) kc)
        | 32, _ => exact j_tabIn (tgt := 1088) K dL_33 (by decide) (by decide) rfl (by decide) (law_slips K hN hSC hX hbl hbA N x0 (Rel x0) hK0 S32 hR hx3 ht6 hL (by omega) (by omega) kc)
        | 33, _ => exact j_tabIn (tgt := 1141) K dL_33 (by decide) (by decide) rfl (by decide) (law_count K hN hSC hX hbl hbA N x0 (Rel x0) hK0 S33 hR hx3 ht6 hL (by omega) (by omega) kc)
        | 34, _ => exact j_tabIn (tgt := 1164) K dL_33 (by decide) (by decide) rfl (by decide) (law_image K hN hSC hX hbl hbA N x0 (Rel x0) hK0 S34 hR hx3 ht6 hL (by omega) (by omega) kc)
        | 35, _ => exact j_tabIn (tgt := 1187) K dL_33 (by decide) (by decide) rfl (by decide) (law_back K hN hSC hX hbl hbA N x0 (Rel x0) hK0 S35 hR hx3 ht6 hL (by omega) (by omega) kc)
        | j + 36, h => exact absurd h (by omega)
