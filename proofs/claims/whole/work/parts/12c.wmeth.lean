def w_ErrataRow_fill (N : Nat) (this : Nat) (a1 : Int32) (κ : Cz) (post : Int32 → Cz → Prop) : Prop := wck (isK κ this 11) (wbo (fr κ this 7) (fun o2 => wck (isK κ o2 10) (wbo (fr κ o2 0) (fun o4 => wck (isK κ o4 0) (wif ((fi κ o4 0) = 0) (post (-1) κ) (wbd (p_ErrataRow_within N a1 1 99 κ) (fun r6 κ6 => wif (r6 = 0) (post (-1) κ6) (wck (isK κ6 this 11) (wbo (fr κ6 this 9) (fun o8 => wbo (fr κ6 this 7) (fun o9 => wck (isK κ6 o9 10) (wbo (fr κ6 o9 1) (fun o11 => wck (isK κ6 o8 2) (w_History_keep N o8 o11 κ6 (fun κ12 => wck (isK κ12 this 11) (wbo (fr κ12 this 7) (fun o15 => wck (isK κ12 o15 10) (wbo (fr κ12 o15 1) (fun o17 => wbo (fr κ12 this 7) (fun o18 => wck (isK κ12 o18 10) (wbo (fr κ12 o18 1) (fun o20 => wck (isK κ12 o20 8) (wlt (if 999 < ((fi κ12 o20 3) + a1) then 999 else ((fi κ12 o20 3) + a1)) (fun v22 => wck (isK κ12 o17 8) (wlt (sfi o17 3 v22 κ12) (fun κ24 => wbo (fr κ24 this 7) (fun o25 => wck (isK κ24 o25 10) (wbo (fr κ24 o25 1) (fun o27 => wck (isK κ24 o27 8) (post (fi κ24 o27 3) κ24))))))))))))))))))))))))))))))
set_option maxHeartbeats 8000000 in
set_option maxRecDepth 100000 in
theorem c_ErrataRow_fill_wp (l : Launch) (D : va_G) (θ : Tc) (N : Nat) (this : Nat) (a1 : Int32) (κ : Cz) (post : Int32 → Cz → Prop) (h : w_ErrataRow_fill N this a1 κ post) : CWi l D θ y_ErrataRow_fill c_ErrataRow_fill 2 (some .int) 3 4 36 [.ref this, .int a1] κ post := by
  intro sz
  refine e_met l [.ref this, .int a1] (by decide +kernel) (Nat.le_of_ble_eq_true rfl) ?_
  intro p e s m args below meth c K hN hr hlk hnm hs
  generalize va_A (wE θ κ) sz = A at K ⊢
  have K : KE p s m args c c_ErrataRow_fill 2 "ErrataRow" y_ErrataRow_fill (some .int) D θ A := K
  show JE p l e (rmA 3 4 36) s m args below meth c D θ A 2 0 0 (QWi below args s D θ A 4 36 post) κ [(0, .ref this), (1, .int a1)] [] 0
  unfold w_ErrataRow_fill at h
  refine j_aload_n K 0 d_ErrataRow_fill_0 rfl rfl ?_
  obtain ⟨q1, h⟩ := wck_e h
  refine eg_ErrataRow_world K ef_ErrataRow_45 q1 d_ErrataRow_fill_1 ?_
  obtain ⟨o2, e2, h⟩ := wbo_e h
  refine j_eqq e2 ?_
  obtain ⟨q3, h⟩ := wck_e h
  refine eg_World_book K ef_ErrataRow_62 q3 d_ErrataRow_fill_4 ?_
  obtain ⟨o4, e4, h⟩ := wbo_e h
  refine j_eqq e4 ?_
  obtain ⟨q5, h⟩ := wck_e h
  refine eg_Book_told K ef_ErrataRow_160 q5 d_ErrataRow_fill_7 ?_
  refine j_if_eq (tgt := 23) K d_ErrataRow_fill_10 (by decide) (fun q => ?_) (fun q => ?_)
  · have h := wif_t h q
    refine j_iconst (v := (-1)) K d_ErrataRow_fill_23 (by decide) ?_
    refine e_widen (a := 4) (b := 36) (by decide) (by decide) ?_
    exact wret_i K h hr hlk d_ErrataRow_fill_24
  · have h := wif_f h q
    refine j_iload_n K 1 d_ErrataRow_fill_13 rfl rfl ?_
    refine j_iconst (v := 1) K d_ErrataRow_fill_14 (by decide) ?_
    refine j_bipush (v := 99) K d_ErrataRow_fill_15 (by decide) ?_
    obtain ⟨r6, κ6, e6, h⟩ := wbd_e h
    refine ecallS_i K hN (c_ErrataRow_within_ok l D θ N a1 1 99 κ _ e6) eG_ErrataRow_166 eh_ErrataRow_within (by decide) (rmA_ok (by decide) (by decide)) rfl (st := []) (Nat.le_of_ble_eq_true rfl) rfl d_ErrataRow_fill_17 ⟨Nat.le_of_ble_eq_true rfl, Nat.le_of_ble_eq_true rfl⟩ ?_
    refine j_if_ne (tgt := 25) K d_ErrataRow_fill_20 (by decide) (fun q => ?_) (fun q => ?_)
    · have h := wif_f h q
      refine j_aload_n K 0 d_ErrataRow_fill_25 rfl rfl ?_
      obtain ⟨q7, h⟩ := wck_e h
      refine eg_ErrataRow_history K ef_ErrataRow_56 q7 d_ErrataRow_fill_26 ?_
      obtain ⟨o8, e8, h⟩ := wbo_e h
      refine j_eqq e8 ?_
      refine j_aload_n K 0 d_ErrataRow_fill_29 rfl rfl ?_
      refine eg_ErrataRow_world K ef_ErrataRow_45 q7 d_ErrataRow_fill_30 ?_
      obtain ⟨o9, e9, h⟩ := wbo_e h
      refine j_eqq e9 ?_
      obtain ⟨q10, h⟩ := wck_e h
      refine eg_World_now K ef_ErrataRow_145 q10 d_ErrataRow_fill_33 ?_
      obtain ⟨o11, e11, h⟩ := wbo_e h
      refine j_eqq e11 ?_
      obtain ⟨q13, h⟩ := wck_e h
      refine wcallV_v K hN (c_History_keep_wp l D θ N o8 o11 κ6 _ h) eG_ErrataRow_208 eh_History_keep (rmA_ok (by decide) (by decide)) rfl q13 (by decide) rfl (st := []) (Nat.le_of_ble_eq_true rfl) rfl d_ErrataRow_fill_36 ⟨Nat.le_of_ble_eq_true rfl, Nat.le_of_ble_eq_true rfl⟩ ?_
      intro κ12 h
      refine j_aload_n K 0 d_ErrataRow_fill_39 rfl rfl ?_
      obtain ⟨q14, h⟩ := wck_e h
      refine eg_ErrataRow_world K ef_ErrataRow_45 q14 d_ErrataRow_fill_40 ?_
      obtain ⟨o15, e15, h⟩ := wbo_e h
      refine j_eqq e15 ?_
      obtain ⟨q16, h⟩ := wck_e h
      refine eg_World_now K ef_ErrataRow_145 q16 d_ErrataRow_fill_43 ?_
      obtain ⟨o17, e17, h⟩ := wbo_e h
      refine j_eqq e17 ?_
      refine j_aload_n K 0 d_ErrataRow_fill_46 rfl rfl ?_
      refine eg_ErrataRow_world K ef_ErrataRow_45 q14 d_ErrataRow_fill_47 ?_
      obtain ⟨o18, e18, h⟩ := wbo_e h
      refine j_eqq e18 ?_
      obtain ⟨q19, h⟩ := wck_e h
      refine eg_World_now K ef_ErrataRow_145 q19 d_ErrataRow_fill_50 ?_
      obtain ⟨o20, e20, h⟩ := wbo_e h
      refine j_eqq e20 ?_
      obtain ⟨q21, h⟩ := wck_e h
      refine eg_State_purse K ef_ErrataRow_189 q21 d_ErrataRow_fill_53 ?_
      refine j_iload_n K 1 d_ErrataRow_fill_56 rfl rfl ?_
      refine j_iadd K d_ErrataRow_fill_57 ?_
      refine j_sipush (v := 999) K d_ErrataRow_fill_58 (by decide) ?_
      refine e_mmin K el_ErrataRow_228 es_mmin ei_Math ec_mmin (by decide) (Nat.le_of_ble_eq_true rfl) (Nat.le_of_ble_eq_true rfl) (Nat.le_of_ble_eq_true rfl) d_ErrataRow_fill_61 ?_
      obtain ⟨v22, e22, h⟩ := wlt_e h
      refine j_eqi e22 ?_
      obtain ⟨q23, h⟩ := wck_e h
      obtain ⟨κ24, e24, h⟩ := wlt_e h
      refine ep_State_purse K ef_ErrataRow_189 q23 d_ErrataRow_fill_64 e24 ?_
      refine j_aload_n K 0 d_ErrataRow_fill_67 rfl rfl ?_
      refine eg_ErrataRow_world K ef_ErrataRow_45 (isK_sfi e24 q14) d_ErrataRow_fill_68 ?_
      obtain ⟨o25, e25, h⟩ := wbo_e h
      refine j_eqq e25 ?_
      obtain ⟨q26, h⟩ := wck_e h
      refine eg_World_now K ef_ErrataRow_145 q26 d_ErrataRow_fill_71 ?_
      obtain ⟨o27, e27, h⟩ := wbo_e h
      refine j_eqq e27 ?_
      obtain ⟨q28, h⟩ := wck_e h
      refine eg_State_purse K ef_ErrataRow_189 q28 d_ErrataRow_fill_74 ?_
      exact wret_i K h hr hlk d_ErrataRow_fill_77
    · have h := wif_t h q
      refine j_iconst (v := (-1)) K d_ErrataRow_fill_23 (by decide) ?_
      refine e_widen (a := 4) (b := 36) (by decide) (by decide) ?_
      exact wret_i K h hr hlk d_ErrataRow_fill_24
