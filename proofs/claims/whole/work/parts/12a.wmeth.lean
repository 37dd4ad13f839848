def w_State_init (N : Nat) (this : Nat) (κ : Cz) (post : Cz → Prop) : Prop := wnw κ (fun n1 => wlt (nw n1 20 (10 : Int32).toNatClampNeg κ) (fun κ1 => wck (isK κ1 this 8) (wlt (sfr this 0 (some n1) κ1) (fun κ3 => wnw κ3 (fun n4 => wlt (nw n4 20 (10 : Int32).toNatClampNeg κ3) (fun κ4 => wlt (sfr this 1 (some n4) κ4) (fun κ5 => wnw κ5 (fun n6 => wlt (nw n6 20 (10 : Int32).toNatClampNeg κ5) (fun κ6 => wlt (sfr this 2 (some n6) κ6) (fun κ7 => post κ7))))))))))
set_option maxHeartbeats 8000000 in
set_option maxRecDepth 100000 in
theorem c_State_init_wp (l : Launch) (D : va_G) (θ : Tc) (N : Nat) (this : Nat) (κ : Cz) (post : Cz → Prop) (h : w_State_init N this κ post) : CWv l D θ y_State_init c_State_init 1 none 1 3 30 [.ref this] κ post := by
  intro sz
  refine e_met l [.ref this] (by decide +kernel) (Nat.le_of_ble_eq_true rfl) ?_
  intro p e s m args below meth c K hN hr hlk hnm hs
  generalize va_A (wE θ κ) sz = A at K ⊢
  have K : KE p s m args c c_State_init 1 "ErrataRow$State" y_State_init none D θ A := K
  show JE p l e (rmA 1 3 30) s m args below meth c D θ A 1 0 0 (QWv below args s D θ A 3 30 post) κ [(0, .ref this)] [] 0
  unfold w_State_init at h
  refine j_aload_n K 0 d_State_init_0 rfl rfl ?_
  refine e_objInit K eo_State_3 eo_inst eo_code (by decide) (Nat.le_of_ble_eq_true rfl) d_State_init_1 ?_
  refine j_aload_n K 0 d_State_init_4 rfl rfl ?_
  refine j_bipush (v := 10) K d_State_init_5 (by decide) ?_
  refine e_newai K ea_int 10 (by decide) (by decide) (by decide) (Nat.le_of_ble_eq_true rfl) (Nat.le_of_ble_eq_true rfl) d_State_init_7 (fun n1 f1 => ?_)
  have h := h n1 f1
  obtain ⟨κ1, e1, h⟩ := wlt_e h
  refine j_eqk e1 ?_
  obtain ⟨q2, h⟩ := wck_e h
  obtain ⟨κ3, e3, h⟩ := wlt_e h
  refine e_putFr K inX8 tyX8 tyX8_ok nmX8 rfl (by decide) q2 0 (by decide) (by decide) rfl ef_State_9 rfl hnm rfl (ty := tyX8 0) (by decide +kernel) rfl rfl d_State_init_9 e3 ?_
  refine j_aload_n K 0 d_State_init_12 rfl rfl ?_
  refine j_bipush (v := 10) K d_State_init_13 (by decide) ?_
  refine e_newai K ea_int 10 (by decide) (by decide) (by decide) (Nat.le_of_ble_eq_true rfl) (Nat.le_of_ble_eq_true rfl) d_State_init_15 (fun n4 f4 => ?_)
  have h := h n4 f4
  obtain ⟨κ4, e4, h⟩ := wlt_e h
  refine j_eqk e4 ?_
  obtain ⟨κ5, e5, h⟩ := wlt_e h
  refine e_putFr K inX8 tyX8 tyX8_ok nmX8 rfl (by decide) (isK_nw e4 f4 (isK_sfr e3 q2)) 1 (by decide) (by decide) rfl ef_State_15 rfl hnm rfl (ty := tyX8 1) (by decide +kernel) rfl rfl d_State_init_17 e5 ?_
  refine j_aload_n K 0 d_State_init_20 rfl rfl ?_
  refine j_bipush (v := 10) K d_State_init_21 (by decide) ?_
  refine e_newai K ea_int 10 (by decide) (by decide) (by decide) (Nat.le_of_ble_eq_true rfl) (Nat.le_of_ble_eq_true rfl) d_State_init_23 (fun n6 f6 => ?_)
  have h := h n6 f6
  obtain ⟨κ6, e6, h⟩ := wlt_e h
  refine j_eqk e6 ?_
  obtain ⟨κ7, e7, h⟩ := wlt_e h
  refine e_putFr K inX8 tyX8 tyX8_ok nmX8 rfl (by decide) (isK_nw e6 f6 (isK_sfr e5 (isK_nw e4 f4 (isK_sfr e3 q2)))) 2 (by decide) (by decide) rfl ef_State_18 rfl hnm rfl (ty := tyX8 2) (by decide +kernel) rfl rfl d_State_init_25 e7 ?_
  exact wret_v K h hr hlk d_State_init_28
def w_Book_init (N : Nat) (this : Nat) (κ : Cz) (post : Cz → Prop) : Prop := wnw κ (fun n1 => wlt (nw n1 20 (10 : Int32).toNatClampNeg κ) (fun κ1 => wck (isK κ1 this 0) (wlt (sfr this 4 (some n1) κ1) (fun κ3 => wnw κ3 (fun n4 => wlt (nw n4 20 (12 : Int32).toNatClampNeg κ3) (fun κ4 => wlt (sfr this 5 (some n4) κ4) (fun κ5 => wnw κ5 (fun n6 => wlt (nw n6 20 (12 : Int32).toNatClampNeg κ5) (fun κ6 => wlt (sfr this 6 (some n6) κ6) (fun κ7 => wnw κ7 (fun n8 => wlt (nw n8 8 0 κ7) (fun κ8 => w_State_init N n8 κ8 (fun κ9 => wck (isK κ9 this 0) (wlt (sfr this 7 (some n8) κ9) (fun κ11 => post κ11)))))))))))))))
set_option maxHeartbeats 8000000 in
set_option maxRecDepth 100000 in
theorem c_Book_init_wp (l : Launch) (D : va_G) (θ : Tc) (N : Nat) (this : Nat) (κ : Cz) (post : Cz → Prop) (h : w_Book_init N this κ post) : CWv l D θ y_Book_init c_Book_init 1 none 2 7 70 [.ref this] κ post := by
  intro sz
  refine e_met l [.ref this] (by decide +kernel) (Nat.le_of_ble_eq_true rfl) ?_
  intro p e s m args below meth c K hN hr hlk hnm hs
  generalize va_A (wE θ κ) sz = A at K ⊢
  have K : KE p s m args c c_Book_init 1 "ErrataRow$Book" y_Book_init none D θ A := K
  show JE p l e (rmA 2 7 70) s m args below meth c D θ A 1 0 0 (QWv below args s D θ A 7 70 post) κ [(0, .ref this)] [] 0
  unfold w_Book_init at h
  refine j_aload_n K 0 d_Book_init_0 rfl rfl ?_
  refine e_objInit K eo_Book_3 eo_inst eo_code (by decide) (Nat.le_of_ble_eq_true rfl) d_Book_init_1 ?_
  refine j_aload_n K 0 d_Book_init_4 rfl rfl ?_
  refine j_bipush (v := 10) K d_Book_init_5 (by decide) ?_
  refine e_newai K ea_int 10 (by decide) (by decide) (by decide) (Nat.le_of_ble_eq_true rfl) (Nat.le_of_ble_eq_true rfl) d_Book_init_7 (fun n1 f1 => ?_)
  have h := h n1 f1
  obtain ⟨κ1, e1, h⟩ := wlt_e h
  refine j_eqk e1 ?_
  obtain ⟨q2, h⟩ := wck_e h
  obtain ⟨κ3, e3, h⟩ := wlt_e h
  refine e_putFr K inX0 tyX0 tyX0_ok nmX0 rfl (by decide) q2 4 (by decide) (by decide) rfl ef_Book_9 rfl hnm rfl (ty := tyX0 4) (by decide +kernel) rfl rfl d_Book_init_9 e3 ?_
  refine j_aload_n K 0 d_Book_init_12 rfl rfl ?_
  refine j_bipush (v := 12) K d_Book_init_13 (by decide) ?_
  refine e_newai K ea_int 12 (by decide) (by decide) (by decide) (Nat.le_of_ble_eq_true rfl) (Nat.le_of_ble_eq_true rfl) d_Book_init_15 (fun n4 f4 => ?_)
  have h := h n4 f4
  obtain ⟨κ4, e4, h⟩ := wlt_e h
  refine j_eqk e4 ?_
  obtain ⟨κ5, e5, h⟩ := wlt_e h
  refine e_putFr K inX0 tyX0 tyX0_ok nmX0 rfl (by decide) (isK_nw e4 f4 (isK_sfr e3 q2)) 5 (by decide) (by decide) rfl ef_Book_15 rfl hnm rfl (ty := tyX0 5) (by decide +kernel) rfl rfl d_Book_init_17 e5 ?_
  refine j_aload_n K 0 d_Book_init_20 rfl rfl ?_
  refine j_bipush (v := 12) K d_Book_init_21 (by decide) ?_
  refine e_newai K ea_int 12 (by decide) (by decide) (by decide) (Nat.le_of_ble_eq_true rfl) (Nat.le_of_ble_eq_true rfl) d_Book_init_23 (fun n6 f6 => ?_)
  have h := h n6 f6
  obtain ⟨κ6, e6, h⟩ := wlt_e h
  refine j_eqk e6 ?_
  obtain ⟨κ7, e7, h⟩ := wlt_e h
  refine e_putFr K inX0 tyX0 tyX0_ok nmX0 rfl (by decide) (isK_nw e6 f6 (isK_sfr e5 (isK_nw e4 f4 (isK_sfr e3 q2)))) 6 (by decide) (by decide) rfl ef_Book_18 rfl hnm rfl (ty := tyX0 6) (by decide +kernel) rfl rfl d_Book_init_25 e7 ?_
  refine j_aload_n K 0 d_Book_init_28 rfl rfl ?_
  refine e_new K inX8 tyX8 tyX8_ok cl_Book_21 in_State ei_State rfl (by decide) fzok_8 (Nat.le_of_ble_eq_true rfl) (Nat.le_of_ble_eq_true rfl) d_Book_init_29 (fun n8 f8 => ?_)
  have h := h n8 f8
  obtain ⟨κ8, e8, h⟩ := wlt_e h
  refine j_eqk e8 ?_
  refine j_dup K d_Book_init_32 rfl ?_
  refine wcallJ_v K hN (c_State_init_wp l D θ N n8 κ8 _ h) ec_State_init ei_State ej_State_init (NX_Book_23 hN) rfl eh_State_init (rmA_ok (by decide) (by decide)) rfl (st := [.ref n8, .ref this]) (Nat.le_of_ble_eq_true rfl) rfl d_Book_init_33 ⟨Nat.le_of_ble_eq_true rfl, Nat.le_of_ble_eq_true rfl⟩ ?_
  intro κ9 h
  obtain ⟨q10, h⟩ := wck_e h
  obtain ⟨κ11, e11, h⟩ := wlt_e h
  refine e_putFr K inX0 tyX0 tyX0_ok nmX0 rfl (by decide) q10 7 (by decide) (by decide) rfl ef_Book_24 rfl hnm rfl (ty := tyX0 7) (by decide +kernel) rfl rfl d_Book_init_36 e11 ?_
  exact wret_v K h hr hlk d_Book_init_39
def w_Notes_init (N : Nat) (this : Nat) (κ : Cz) (post : Cz → Prop) : Prop := wnw κ (fun n1 => wlt (nw n1 20 (10 : Int32).toNatClampNeg κ) (fun κ1 => wck (isK κ1 this 3) (wlt (sfr this 1 (some n1) κ1) (fun κ3 => wnw κ3 (fun n4 => wlt (nw n4 20 (10 : Int32).toNatClampNeg κ3) (fun κ4 => wlt (sfr this 2 (some n4) κ4) (fun κ5 => wnw κ5 (fun n6 => wlt (nw n6 20 (10 : Int32).toNatClampNeg κ5) (fun κ6 => wlt (sfr this 3 (some n6) κ6) (fun κ7 => post κ7))))))))))
set_option maxHeartbeats 8000000 in
set_option maxRecDepth 100000 in
theorem c_Notes_init_wp (l : Launch) (D : va_G) (θ : Tc) (N : Nat) (this : Nat) (κ : Cz) (post : Cz → Prop) (h : w_Notes_init N this κ post) : CWv l D θ y_Notes_init c_Notes_init 1 none 1 3 30 [.ref this] κ post := by
  intro sz
  refine e_met l [.ref this] (by decide +kernel) (Nat.le_of_ble_eq_true rfl) ?_
  intro p e s m args below meth c K hN hr hlk hnm hs
  generalize va_A (wE θ κ) sz = A at K ⊢
  have K : KE p s m args c c_Notes_init 1 "ErrataRow$Notes" y_Notes_init none D θ A := K
  show JE p l e (rmA 1 3 30) s m args below meth c D θ A 1 0 0 (QWv below args s D θ A 3 30 post) κ [(0, .ref this)] [] 0
  unfold w_Notes_init at h
  refine j_aload_n K 0 d_Notes_init_0 rfl rfl ?_
  refine e_objInit K eo_Notes_3 eo_inst eo_code (by decide) (Nat.le_of_ble_eq_true rfl) d_Notes_init_1 ?_
  refine j_aload_n K 0 d_Notes_init_4 rfl rfl ?_
  refine j_bipush (v := 10) K d_Notes_init_5 (by decide) ?_
  refine e_newai K ea_int 10 (by decide) (by decide) (by decide) (Nat.le_of_ble_eq_true rfl) (Nat.le_of_ble_eq_true rfl) d_Notes_init_7 (fun n1 f1 => ?_)
  have h := h n1 f1
  obtain ⟨κ1, e1, h⟩ := wlt_e h
  refine j_eqk e1 ?_
  obtain ⟨q2, h⟩ := wck_e h
  obtain ⟨κ3, e3, h⟩ := wlt_e h
  refine e_putFr K inX3 tyX3 tyX3_ok nmX3 rfl (by decide) q2 1 (by decide) (by decide) rfl ef_Notes_9 rfl hnm rfl (ty := tyX3 1) (by decide +kernel) rfl rfl d_Notes_init_9 e3 ?_
  refine j_aload_n K 0 d_Notes_init_12 rfl rfl ?_
  refine j_bipush (v := 10) K d_Notes_init_13 (by decide) ?_
  refine e_newai K ea_int 10 (by decide) (by decide) (by decide) (Nat.le_of_ble_eq_true rfl) (Nat.le_of_ble_eq_true rfl) d_Notes_init_15 (fun n4 f4 => ?_)
  have h := h n4 f4
  obtain ⟨κ4, e4, h⟩ := wlt_e h
  refine j_eqk e4 ?_
  obtain ⟨κ5, e5, h⟩ := wlt_e h
  refine e_putFr K inX3 tyX3 tyX3_ok nmX3 rfl (by decide) (isK_nw e4 f4 (isK_sfr e3 q2)) 2 (by decide) (by decide) rfl ef_Notes_15 rfl hnm rfl (ty := tyX3 2) (by decide +kernel) rfl rfl d_Notes_init_17 e5 ?_
  refine j_aload_n K 0 d_Notes_init_20 rfl rfl ?_
  refine j_bipush (v := 10) K d_Notes_init_21 (by decide) ?_
  refine e_newai K ea_int 10 (by decide) (by decide) (by decide) (Nat.le_of_ble_eq_true rfl) (Nat.le_of_ble_eq_true rfl) d_Notes_init_23 (fun n6 f6 => ?_)
  have h := h n6 f6
  obtain ⟨κ6, e6, h⟩ := wlt_e h
  refine j_eqk e6 ?_
  obtain ⟨κ7, e7, h⟩ := wlt_e h
  refine e_putFr K inX3 tyX3 tyX3_ok nmX3 rfl (by decide) (isK_nw e6 f6 (isK_sfr e5 (isK_nw e4 f4 (isK_sfr e3 q2)))) 3 (by decide) (by decide) rfl ef_Notes_18 rfl hnm rfl (ty := tyX3 3) (by decide +kernel) rfl rfl d_Notes_init_25 e7 ?_
  exact wret_v K h hr hlk d_Notes_init_28
def w_World_init (N : Nat) (this : Nat) (κ : Cz) (post : Cz → Prop) : Prop := wnw κ (fun n1 => wlt (nw n1 0 0 κ) (fun κ1 => w_Book_init N n1 κ1 (fun κ2 => wck (isK κ2 this 10) (wlt (sfr this 0 (some n1) κ2) (fun κ4 => wnw κ4 (fun n5 => wlt (nw n5 8 0 κ4) (fun κ5 => w_State_init N n5 κ5 (fun κ6 => wck (isK κ6 this 10) (wlt (sfr this 1 (some n5) κ6) (fun κ8 => wnw κ8 (fun n9 => wlt (nw n9 3 0 κ8) (fun κ9 => w_Notes_init N n9 κ9 (fun κ10 => wck (isK κ10 this 10) (wlt (sfr this 2 (some n9) κ10) (fun κ12 => wlt (sfi this 3 (-1) κ12) (fun κ13 => post κ13))))))))))))))))
set_option maxHeartbeats 8000000 in
set_option maxRecDepth 100000 in
theorem c_World_init_wp (l : Launch) (D : va_G) (θ : Tc) (N : Nat) (this : Nat) (κ : Cz) (post : Cz → Prop) (h : w_World_init N this κ post) : CWv l D θ y_World_init c_World_init 1 none 3 16 148 [.ref this] κ post := by
  intro sz
  refine e_met l [.ref this] (by decide +kernel) (Nat.le_of_ble_eq_true rfl) ?_
  intro p e s m args below meth c K hN hr hlk hnm hs
  generalize va_A (wE θ κ) sz = A at K ⊢
  have K : KE p s m args c c_World_init 1 "ErrataRow$World" y_World_init none D θ A := K
  show JE p l e (rmA 3 16 148) s m args below meth c D θ A 1 0 0 (QWv below args s D θ A 16 148 post) κ [(0, .ref this)] [] 0
  unfold w_World_init at h
  refine j_aload_n K 0 d_World_init_0 rfl rfl ?_
  refine e_objInit K eo_World_3 eo_inst eo_code (by decide) (Nat.le_of_ble_eq_true rfl) d_World_init_1 ?_
  refine j_aload_n K 0 d_World_init_4 rfl rfl ?_
  refine e_new K inX0 tyX0 tyX0_ok cl_World_9 in_Book ei_Book rfl (by decide) fzok_0 (Nat.le_of_ble_eq_true rfl) (Nat.le_of_ble_eq_true rfl) d_World_init_5 (fun n1 f1 => ?_)
  have h := h n1 f1
  obtain ⟨κ1, e1, h⟩ := wlt_e h
  refine j_eqk e1 ?_
  refine j_dup K d_World_init_8 rfl ?_
  refine wcallJ_v K hN (c_Book_init_wp l D θ N n1 κ1 _ h) ec_Book_init ei_Book ej_Book_init (NX_World_11 hN) rfl eh_Book_init (rmA_ok (by decide) (by decide)) rfl (st := [.ref n1, .ref this]) (Nat.le_of_ble_eq_true rfl) rfl d_World_init_9 ⟨Nat.le_of_ble_eq_true rfl, Nat.le_of_ble_eq_true rfl⟩ ?_
  intro κ2 h
  obtain ⟨q3, h⟩ := wck_e h
  obtain ⟨κ4, e4, h⟩ := wlt_e h
  refine e_putFr K inX10 tyX10 tyX10_ok nmX10 rfl (by decide) q3 0 (by decide) (by decide) rfl ef_World_12 rfl hnm rfl (ty := tyX10 0) (by decide +kernel) rfl rfl d_World_init_12 e4 ?_
  refine j_aload_n K 0 d_World_init_15 rfl rfl ?_
  refine e_new K inX8 tyX8 tyX8_ok cl_World_18 in_State ei_State rfl (by decide) fzok_8 (Nat.le_of_ble_eq_true rfl) (Nat.le_of_ble_eq_true rfl) d_World_init_16 (fun n5 f5 => ?_)
  have h := h n5 f5
  obtain ⟨κ5, e5, h⟩ := wlt_e h
  refine j_eqk e5 ?_
  refine j_dup K d_World_init_19 rfl ?_
  refine wcallJ_v K hN (c_State_init_wp l D θ N n5 κ5 _ h) ec_State_init ei_State ej_State_init (NX_World_20 hN) rfl eh_State_init (rmA_ok (by decide) (by decide)) rfl (st := [.ref n5, .ref this]) (Nat.le_of_ble_eq_true rfl) rfl d_World_init_20 ⟨Nat.le_of_ble_eq_true rfl, Nat.le_of_ble_eq_true rfl⟩ ?_
  intro κ6 h
  obtain ⟨q7, h⟩ := wck_e h
  obtain ⟨κ8, e8, h⟩ := wlt_e h
  refine e_putFr K inX10 tyX10 tyX10_ok nmX10 rfl (by decide) q7 1 (by decide) (by decide) rfl ef_World_21 rfl hnm rfl (ty := tyX10 1) (by decide +kernel) rfl rfl d_World_init_23 e8 ?_
  refine j_aload_n K 0 d_World_init_26 rfl rfl ?_
  refine e_new K inX3 tyX3 tyX3_ok cl_World_25 in_Notes ei_Notes rfl (by decide) fzok_3 (Nat.le_of_ble_eq_true rfl) (Nat.le_of_ble_eq_true rfl) d_World_init_27 (fun n9 f9 => ?_)
  have h := h n9 f9
  obtain ⟨κ9, e9, h⟩ := wlt_e h
  refine j_eqk e9 ?_
  refine j_dup K d_World_init_30 rfl ?_
  refine wcallJ_v K hN (c_Notes_init_wp l D θ N n9 κ9 _ h) ec_Notes_init ei_Notes ej_Notes_init (NX_World_27 hN) rfl eh_Notes_init (rmA_ok (by decide) (by decide)) rfl (st := [.ref n9, .ref this]) (Nat.le_of_ble_eq_true rfl) rfl d_World_init_31 ⟨Nat.le_of_ble_eq_true rfl, Nat.le_of_ble_eq_true rfl⟩ ?_
  intro κ10 h
  obtain ⟨q11, h⟩ := wck_e h
  obtain ⟨κ12, e12, h⟩ := wlt_e h
  refine e_putFr K inX10 tyX10 tyX10_ok nmX10 rfl (by decide) q11 2 (by decide) (by decide) rfl ef_World_28 rfl hnm rfl (ty := tyX10 2) (by decide +kernel) rfl rfl d_World_init_34 e12 ?_
  refine j_aload_n K 0 d_World_init_37 rfl rfl ?_
  refine j_iconst (v := (-1)) K d_World_init_38 (by decide) ?_
  obtain ⟨κ13, e13, h⟩ := wlt_e h
  refine ep_World_inForce K ef_World_32 (isK_sfr e12 q11) d_World_init_39 e13 ?_
  exact wret_v K h hr hlk d_World_init_42
def w_Tokens_init (N : Nat) (this : Nat) (κ : Cz) (post : Cz → Prop) : Prop := wnw κ (fun n1 => wlt (nw n1 20 (401 : Int32).toNatClampNeg κ) (fun κ1 => wck (isK κ1 this 9) (wlt (sfr this 0 (some n1) κ1) (fun κ3 => wnw κ3 (fun n4 => wlt (nw n4 20 (401 : Int32).toNatClampNeg κ3) (fun κ4 => wlt (sfr this 1 (some n4) κ4) (fun κ5 => wnw κ5 (fun n6 => wlt (nw n6 20 (401 : Int32).toNatClampNeg κ5) (fun κ6 => wlt (sfr this 2 (some n6) κ6) (fun κ7 => post κ7))))))))))
set_option maxHeartbeats 8000000 in
set_option maxRecDepth 100000 in
theorem c_Tokens_init_wp (l : Launch) (D : va_G) (θ : Tc) (N : Nat) (this : Nat) (κ : Cz) (post : Cz → Prop) (h : w_Tokens_init N this κ post) : CWv l D θ y_Tokens_init c_Tokens_init 1 none 1 3 1203 [.ref this] κ post := by
  intro sz
  refine e_met l [.ref this] (by decide +kernel) (Nat.le_of_ble_eq_true rfl) ?_
  intro p e s m args below meth c K hN hr hlk hnm hs
  generalize va_A (wE θ κ) sz = A at K ⊢
  have K : KE p s m args c c_Tokens_init 1 "ErrataRow$Tokens" y_Tokens_init none D θ A := K
  show JE p l e (rmA 1 3 1203) s m args below meth c D θ A 1 0 0 (QWv below args s D θ A 3 1203 post) κ [(0, .ref this)] [] 0
  unfold w_Tokens_init at h
  refine j_aload_n K 0 d_Tokens_init_0 rfl rfl ?_
  refine e_objInit K eo_Tokens_3 eo_inst eo_code (by decide) (Nat.le_of_ble_eq_true rfl) d_Tokens_init_1 ?_
  refine j_aload_n K 0 d_Tokens_init_4 rfl rfl ?_
  refine j_sipush (v := 401) K d_Tokens_init_5 (by decide) ?_
  refine e_newai K ea_int 401 (by decide) (by decide) (by decide) (Nat.le_of_ble_eq_true rfl) (Nat.le_of_ble_eq_true rfl) d_Tokens_init_8 (fun n1 f1 => ?_)
  have h := h n1 f1
  obtain ⟨κ1, e1, h⟩ := wlt_e h
  refine j_eqk e1 ?_
  obtain ⟨q2, h⟩ := wck_e h
  obtain ⟨κ3, e3, h⟩ := wlt_e h
  refine e_putFr K inX9 tyX9 tyX9_ok nmX9 rfl (by decide) q2 0 (by decide) (by decide) rfl ef_Tokens_9 rfl hnm rfl (ty := tyX9 0) (by decide +kernel) rfl rfl d_Tokens_init_10 e3 ?_
  refine j_aload_n K 0 d_Tokens_init_13 rfl rfl ?_
  refine j_sipush (v := 401) K d_Tokens_init_14 (by decide) ?_
  refine e_newai K ea_int 401 (by decide) (by decide) (by decide) (Nat.le_of_ble_eq_true rfl) (Nat.le_of_ble_eq_true rfl) d_Tokens_init_17 (fun n4 f4 => ?_)
  have h := h n4 f4
  obtain ⟨κ4, e4, h⟩ := wlt_e h
  refine j_eqk e4 ?_
  obtain ⟨κ5, e5, h⟩ := wlt_e h
  refine e_putFr K inX9 tyX9 tyX9_ok nmX9 rfl (by decide) (isK_nw e4 f4 (isK_sfr e3 q2)) 1 (by decide) (by decide) rfl ef_Tokens_15 rfl hnm rfl (ty := tyX9 1) (by decide +kernel) rfl rfl d_Tokens_init_19 e5 ?_
  refine j_aload_n K 0 d_Tokens_init_22 rfl rfl ?_
  refine j_sipush (v := 401) K d_Tokens_init_23 (by decide) ?_
  refine e_newai K ea_int 401 (by decide) (by decide) (by decide) (Nat.le_of_ble_eq_true rfl) (Nat.le_of_ble_eq_true rfl) d_Tokens_init_26 (fun n6 f6 => ?_)
  have h := h n6 f6
  obtain ⟨κ6, e6, h⟩ := wlt_e h
  refine j_eqk e6 ?_
  obtain ⟨κ7, e7, h⟩ := wlt_e h
  refine e_putFr K inX9 tyX9 tyX9_ok nmX9 rfl (by decide) (isK_nw e6 f6 (isK_sfr e5 (isK_nw e4 f4 (isK_sfr e3 q2)))) 2 (by decide) (by decide) rfl ef_Tokens_18 rfl hnm rfl (ty := tyX9 2) (by decide +kernel) rfl rfl d_Tokens_init_28 e7 ?_
  exact wret_v K h hr hlk d_Tokens_init_31
def w_BookReader_init (N : Nat) (this : Nat) (a1 : Nat) (κ : Cz) (post : Cz → Prop) : Prop := wnw κ (fun n1 => wlt (nw n1 0 0 κ) (fun κ1 => w_Book_init N n1 κ1 (fun κ2 => wck (isK κ2 this 1) (wlt (sfr this 1 (some n1) κ2) (fun κ4 => wlt (sfr this 0 (some a1) κ4) (fun κ5 => post κ5))))))
set_option maxHeartbeats 8000000 in
set_option maxRecDepth 100000 in
theorem c_BookReader_init_wp (l : Launch) (D : va_G) (θ : Tc) (N : Nat) (this : Nat) (a1 : Nat) (κ : Cz) (post : Cz → Prop) (h : w_BookReader_init N this a1 κ post) : CWv l D θ y_BookReader_init c_BookReader_init 2 none 3 8 78 [.ref this, .ref a1] κ post := by
  intro sz
  refine e_met l [.ref this, .ref a1] (by decide +kernel) (Nat.le_of_ble_eq_true rfl) ?_
  intro p e s m args below meth c K hN hr hlk hnm hs
  generalize va_A (wE θ κ) sz = A at K ⊢
  have K : KE p s m args c c_BookReader_init 2 "ErrataRow$BookReader" y_BookReader_init none D θ A := K
  show JE p l e (rmA 3 8 78) s m args below meth c D θ A 2 0 0 (QWv below args s D θ A 8 78 post) κ [(0, .ref this), (1, .ref a1)] [] 0
  unfold w_BookReader_init at h
  refine j_aload_n K 0 d_BookReader_init_0 rfl rfl ?_
  refine e_objInit K eo_BookReader_3 eo_inst eo_code (by decide) (Nat.le_of_ble_eq_true rfl) d_BookReader_init_1 ?_
  refine j_aload_n K 0 d_BookReader_init_4 rfl rfl ?_
  refine e_new K inX0 tyX0 tyX0_ok cl_BookReader_9 in_Book ei_Book rfl (by decide) fzok_0 (Nat.le_of_ble_eq_true rfl) (Nat.le_of_ble_eq_true rfl) d_BookReader_init_5 (fun n1 f1 => ?_)
  have h := h n1 f1
  obtain ⟨κ1, e1, h⟩ := wlt_e h
  refine j_eqk e1 ?_
  refine j_dup K d_BookReader_init_8 rfl ?_
  refine wcallJ_v K hN (c_Book_init_wp l D θ N n1 κ1 _ h) ec_Book_init ei_Book ej_Book_init (NX_BookReader_11 hN) rfl eh_Book_init (rmA_ok (by decide) (by decide)) rfl (st := [.ref n1, .ref this]) (Nat.le_of_ble_eq_true rfl) rfl d_BookReader_init_9 ⟨Nat.le_of_ble_eq_true rfl, Nat.le_of_ble_eq_true rfl⟩ ?_
  intro κ2 h
  obtain ⟨q3, h⟩ := wck_e h
  obtain ⟨κ4, e4, h⟩ := wlt_e h
  refine e_putFr K inX1 tyX1 tyX1_ok nmX1 rfl (by decide) q3 1 (by decide) (by decide) rfl ef_BookReader_12 rfl hnm rfl (ty := tyX1 1) (by decide +kernel) rfl rfl d_BookReader_init_12 e4 ?_
  refine j_aload_n K 0 d_BookReader_init_15 rfl rfl ?_
  refine j_aload_n K 1 d_BookReader_init_16 rfl rfl ?_
  obtain ⟨κ5, e5, h⟩ := wlt_e h
  refine e_putFr K inX1 tyX1 tyX1_ok nmX1 rfl (by decide) (isK_sfr e4 q3) 0 (by decide) (by decide) rfl ef_BookReader_18 rfl hnm rfl (ty := tyX1 0) (by decide +kernel) rfl rfl d_BookReader_init_17 e5 ?_
  exact wret_v K h hr hlk d_BookReader_init_20
def w_RuleReader_init (N : Nat) (this : Nat) (a1 : Nat) (κ : Cz) (post : Cz → Prop) : Prop := wnw κ (fun n1 => wlt (nw n1 20 (400 : Int32).toNatClampNeg κ) (fun κ1 => wck (isK κ1 this 7) (wlt (sfr this 1 (some n1) κ1) (fun κ3 => wnw κ3 (fun n4 => wlt (nw n4 20 (12 : Int32).toNatClampNeg κ3) (fun κ4 => wlt (sfr this 2 (some n4) κ4) (fun κ5 => wnw κ5 (fun n6 => wlt (nw n6 20 (12 : Int32).toNatClampNeg κ5) (fun κ6 => wlt (sfr this 3 (some n6) κ6) (fun κ7 => wlt (sfr this 0 (some a1) κ7) (fun κ8 => post κ8)))))))))))
set_option maxHeartbeats 8000000 in
set_option maxRecDepth 100000 in
theorem c_RuleReader_init_wp (l : Launch) (D : va_G) (θ : Tc) (N : Nat) (this : Nat) (a1 : Nat) (κ : Cz) (post : Cz → Prop) (h : w_RuleReader_init N this a1 κ post) : CWv l D θ y_RuleReader_init c_RuleReader_init 2 none 1 3 424 [.ref this, .ref a1] κ post := by
  intro sz
  refine e_met l [.ref this, .ref a1] (by decide +kernel) (Nat.le_of_ble_eq_true rfl) ?_
  intro p e s m args below meth c K hN hr hlk hnm hs
  generalize va_A (wE θ κ) sz = A at K ⊢
  have K : KE p s m args c c_RuleReader_init 2 "ErrataRow$RuleReader" y_RuleReader_init none D θ A := K
  show JE p l e (rmA 1 3 424) s m args below meth c D θ A 2 0 0 (QWv below args s D θ A 3 424 post) κ [(0, .ref this), (1, .ref a1)] [] 0
  unfold w_RuleReader_init at h
  refine j_aload_n K 0 d_RuleReader_init_0 rfl rfl ?_
  refine e_objInit K eo_RuleReader_3 eo_inst eo_code (by decide) (Nat.le_of_ble_eq_true rfl) d_RuleReader_init_1 ?_
  refine j_aload_n K 0 d_RuleReader_init_4 rfl rfl ?_
  refine j_sipush (v := 400) K d_RuleReader_init_5 (by decide) ?_
  refine e_newai K ea_int 400 (by decide) (by decide) (by decide) (Nat.le_of_ble_eq_true rfl) (Nat.le_of_ble_eq_true rfl) d_RuleReader_init_8 (fun n1 f1 => ?_)
  have h := h n1 f1
  obtain ⟨κ1, e1, h⟩ := wlt_e h
  refine j_eqk e1 ?_
  obtain ⟨q2, h⟩ := wck_e h
  obtain ⟨κ3, e3, h⟩ := wlt_e h
  refine e_putFr K inX7 tyX7 tyX7_ok nmX7 rfl (by decide) q2 1 (by decide) (by decide) rfl ef_RuleReader_9 rfl hnm rfl (ty := tyX7 1) (by decide +kernel) rfl rfl d_RuleReader_init_10 e3 ?_
  refine j_aload_n K 0 d_RuleReader_init_13 rfl rfl ?_
  refine j_bipush (v := 12) K d_RuleReader_init_14 (by decide) ?_
  refine e_newai K ea_int 12 (by decide) (by decide) (by decide) (Nat.le_of_ble_eq_true rfl) (Nat.le_of_ble_eq_true rfl) d_RuleReader_init_16 (fun n4 f4 => ?_)
  have h := h n4 f4
  obtain ⟨κ4, e4, h⟩ := wlt_e h
  refine j_eqk e4 ?_
  obtain ⟨κ5, e5, h⟩ := wlt_e h
  refine e_putFr K inX7 tyX7 tyX7_ok nmX7 rfl (by decide) (isK_nw e4 f4 (isK_sfr e3 q2)) 2 (by decide) (by decide) rfl ef_RuleReader_15 rfl hnm rfl (ty := tyX7 2) (by decide +kernel) rfl rfl d_RuleReader_init_18 e5 ?_
  refine j_aload_n K 0 d_RuleReader_init_21 rfl rfl ?_
  refine j_bipush (v := 12) K d_RuleReader_init_22 (by decide) ?_
  refine e_newai K ea_int 12 (by decide) (by decide) (by decide) (Nat.le_of_ble_eq_true rfl) (Nat.le_of_ble_eq_true rfl) d_RuleReader_init_24 (fun n6 f6 => ?_)
  have h := h n6 f6
  obtain ⟨κ6, e6, h⟩ := wlt_e h
  refine j_eqk e6 ?_
  obtain ⟨κ7, e7, h⟩ := wlt_e h
  refine e_putFr K inX7 tyX7 tyX7_ok nmX7 rfl (by decide) (isK_nw e6 f6 (isK_sfr e5 (isK_nw e4 f4 (isK_sfr e3 q2)))) 3 (by decide) (by decide) rfl ef_RuleReader_18 rfl hnm rfl (ty := tyX7 3) (by decide +kernel) rfl rfl d_RuleReader_init_26 e7 ?_
  refine j_aload_n K 0 d_RuleReader_init_29 rfl rfl ?_
  refine j_aload_n K 1 d_RuleReader_init_30 rfl rfl ?_
  obtain ⟨κ8, e8, h⟩ := wlt_e h
  refine e_putFr K inX7 tyX7 tyX7_ok nmX7 rfl (by decide) (isK_sfr e7 (isK_nw e6 f6 (isK_sfr e5 (isK_nw e4 f4 (isK_sfr e3 q2))))) 0 (by decide) (by decide) rfl ef_RuleReader_21 rfl hnm rfl (ty := tyX7 0) (by decide +kernel) rfl rfl d_RuleReader_init_31 e8 ?_
  exact wret_v K h hr hlk d_RuleReader_init_34
def w_Rule_init (N : Nat) (this : Nat) (a1 : Nat) (a2 : Nat) (a3 : Nat) (κ : Cz) (post : Cz → Prop) : Prop := wck (isK κ this 6) (wlt (sfr this 0 (some a1) κ) (fun κ2 => wlt (sfr this 1 (some a2) κ2) (fun κ3 => wlt (sfr this 2 (some a3) κ3) (fun κ4 => wck (isK κ4 a1 20) (wlt ((nI (ln κ4 a1)) + 1) (fun v6 => wck (decide (¬ v6 < 0 ∧ v6.toNatClampNeg ≤ 401)) (wnw κ4 (fun n8 => wlt (nw n8 21 v6.toNatClampNeg κ4) (fun κ8 => wlt (sfr this 3 (some n8) κ8) (fun κ9 => post κ9))))))))))
set_option maxHeartbeats 8000000 in
set_option maxRecDepth 100000 in
theorem c_Rule_init_wp (l : Launch) (D : va_G) (θ : Tc) (N : Nat) (this : Nat) (a1 : Nat) (a2 : Nat) (a3 : Nat) (κ : Cz) (post : Cz → Prop) (h : w_Rule_init N this a1 a2 a3 κ post) : CWv l D θ y_Rule_init c_Rule_init 4 none 1 1 401 [.ref this, .ref a1, .ref a2, .ref a3] κ post := by
  intro sz
  refine e_met l [.ref this, .ref a1, .ref a2, .ref a3] (by decide +kernel) (Nat.le_of_ble_eq_true rfl) ?_
  intro p e s m args below meth c K hN hr hlk hnm hs
  generalize va_A (wE θ κ) sz = A at K ⊢
  have K : KE p s m args c c_Rule_init 4 "ErrataRow$Rule" y_Rule_init none D θ A := K
  show JE p l e (rmA 1 1 401) s m args below meth c D θ A 4 0 0 (QWv below args s D θ A 1 401 post) κ [(0, .ref this), (1, .ref a1), (2, .ref a2), (3, .ref a3)] [] 0
  unfold w_Rule_init at h
  refine j_aload_n K 0 d_Rule_init_0 rfl rfl ?_
  refine e_objInit K eo_Rule_1 eo_inst eo_code (by decide) (Nat.le_of_ble_eq_true rfl) d_Rule_init_1 ?_
  refine j_aload_n K 0 d_Rule_init_4 rfl rfl ?_
  refine j_aload_n K 1 d_Rule_init_5 rfl rfl ?_
  obtain ⟨q1, h⟩ := wck_e h
  obtain ⟨κ2, e2, h⟩ := wlt_e h
  refine e_putFr K inX6 tyX6 tyX6_ok nmX6 rfl (by decide) q1 0 (by decide) (by decide) rfl ef_Rule_7 rfl hnm rfl (ty := tyX6 0) (by decide +kernel) rfl rfl d_Rule_init_6 e2 ?_
  refine j_aload_n K 0 d_Rule_init_9 rfl rfl ?_
  refine j_aload_n K 2 d_Rule_init_10 rfl rfl ?_
  obtain ⟨κ3, e3, h⟩ := wlt_e h
  refine e_putFr K inX6 tyX6 tyX6_ok nmX6 rfl (by decide) (isK_sfr e2 q1) 1 (by decide) (by decide) rfl ef_Rule_13 rfl hnm rfl (ty := tyX6 1) (by decide +kernel) rfl rfl d_Rule_init_11 e3 ?_
  refine j_aload_n K 0 d_Rule_init_14 rfl rfl ?_
  refine j_aload_n K 3 d_Rule_init_15 rfl rfl ?_
  obtain ⟨κ4, e4, h⟩ := wlt_e h
  refine e_putFr K inX6 tyX6 tyX6_ok nmX6 rfl (by decide) (isK_sfr e3 (isK_sfr e2 q1)) 2 (by decide) (by decide) rfl ef_Rule_16 rfl hnm rfl (ty := tyX6 2) (by decide +kernel) rfl rfl d_Rule_init_16 e4 ?_
  refine j_aload_n K 0 d_Rule_init_19 rfl rfl ?_
  refine j_aload_n K 1 d_Rule_init_20 rfl rfl ?_
  obtain ⟨q5, h⟩ := wck_e h
  refine e_alen K q5 d_Rule_init_21 ?_
  refine j_iconst (v := 1) K d_Rule_init_22 (by decide) ?_
  refine j_iadd K d_Rule_init_23 ?_
  obtain ⟨v6, e6, h⟩ := wlt_e h
  refine j_eqi e6 ?_
  obtain ⟨q7, h⟩ := wck_e h
  refine e_newal K ea_long 401 (of_decide_eq_true q7).1 (of_decide_eq_true q7).2 (by decide) (Nat.le_of_ble_eq_true rfl) (Nat.le_of_ble_eq_true rfl) d_Rule_init_24 (fun n8 f8 => ?_)
  have h := h n8 f8
  obtain ⟨κ8, e8, h⟩ := wlt_e h
  refine j_eqk e8 ?_
  obtain ⟨κ9, e9, h⟩ := wlt_e h
  refine e_putFr K inX6 tyX6 tyX6_ok nmX6 rfl (by decide) (isK_nw e8 f8 (isK_sfr e4 (isK_sfr e3 (isK_sfr e2 q1)))) 3 (by decide) (by decide) rfl ef_Rule_19 rfl hnm rfl (ty := tyX6 3) (by decide +kernel) rfl rfl d_Rule_init_26 e9 ?_
  exact wret_v K h hr hlk d_Rule_init_29
def w_Arrays_copyOf (N : Nat) (a1 : Nat) (a2 : Int32) (κ : Cz) (post : Option Nat → Cz → Prop) : Prop := wck (isK κ a1 20) (wif (a2 = (nI (ln κ a1))) (wck (decide (ln κ a1 ≤ 401)) (wnw κ (fun n9 => wlt (sai n9 (ai κ a1) (nw n9 20 (ln κ a1) κ)) (fun κ9 => post (some n9) κ9)))) (wck (decide (¬ a2 < 0 ∧ a2.toNatClampNeg ≤ 401)) (wnw κ (fun n3 => wlt (nw n3 20 a2.toNatClampNeg κ) (fun κ3 => wlt (if a2 < (nI (ln κ3 a1)) then a2 else (nI (ln κ3 a1))) (fun v4 => wck (decide (¬ v4 < 0)) (wck (decide ((0 : Int32).toNatClampNeg + v4.toNatClampNeg ≤ ln κ3 a1)) (wck (decide ((0 : Int32).toNatClampNeg + v4.toNatClampNeg ≤ ln κ3 n3)) (wlt (sai n3 (va_cpy (ai κ3 a1) (ai κ3 n3) (0 : Int32).toNatClampNeg (0 : Int32).toNatClampNeg v4.toNatClampNeg) κ3) (fun κ8 => post (some n3) κ8))))))))))
set_option maxHeartbeats 8000000 in
set_option maxRecDepth 100000 in
theorem c_Arrays_copyOf_wp (l : Launch) (D : va_G) (θ : Tc) (N : Nat) (a1 : Nat) (a2 : Int32) (κ : Cz) (post : Option Nat → Cz → Prop) (h : w_Arrays_copyOf N a1 a2 κ post) : CWq l D θ y_Arrays_copyOf c_Arrays_copyOf 3 (some (.array .int)) 1 1 401 [.ref a1, .int a2] κ post := by
  intro sz
  refine e_met l [.ref a1, .int a2] (by decide +kernel) (Nat.le_of_ble_eq_true rfl) ?_
  intro p e s m args below meth c K hN hr hlk hnm hs
  generalize va_A (wE θ κ) sz = A at K ⊢
  have K : KE p s m args c c_Arrays_copyOf 3 "java/util/Arrays" y_Arrays_copyOf (some (.array .int)) D θ A := K
  show JE p l e (rmA 1 1 401) s m args below meth c D θ A 3 0 0 (QWq below args s D θ A 1 401 post) κ [(0, .ref a1), (1, .int a2)] [] 0
  unfold w_Arrays_copyOf at h
  refine j_iload_n K 1 d_Arrays_copyOf_0 rfl rfl ?_
  refine j_aload_n K 0 d_Arrays_copyOf_1 rfl rfl ?_
  obtain ⟨q1, h⟩ := wck_e h
  refine e_alen K q1 d_Arrays_copyOf_2 ?_
  refine j_icmp_ne (tgt := 14) K d_Arrays_copyOf_3 (by decide) (fun q => ?_) (fun q => ?_)
  · have h := wif_f h q
    refine j_iload_n K 1 d_Arrays_copyOf_14 rfl rfl ?_
    obtain ⟨q2, h⟩ := wck_e h
    refine e_newai K ea_int 401 (of_decide_eq_true q2).1 (of_decide_eq_true q2).2 (by decide) (Nat.le_of_ble_eq_true rfl) (Nat.le_of_ble_eq_true rfl) d_Arrays_copyOf_15 (fun n3 f3 => ?_)
    have h := h n3 f3
    obtain ⟨κ3, e3, h⟩ := wlt_e h
    refine j_eqk e3 ?_
    refine j_astore_n (lv' := [(2, .ref n3), (0, .ref a1), (1, .int a2)]) K d_Arrays_copyOf_17 rfl (by decide) rfl ?_
    refine j_aload_n K 1 d_Arrays_copyOf_18 rfl rfl ?_
    refine j_iconst (v := 0) K d_Arrays_copyOf_19 (by decide) ?_
    refine j_aload_n K 0 d_Arrays_copyOf_20 rfl rfl ?_
    refine j_iconst (v := 0) K d_Arrays_copyOf_21 (by decide) ?_
    refine j_aload_n K 1 d_Arrays_copyOf_22 rfl rfl ?_
    refine e_alen K (isK_nw e3 f3 q1) d_Arrays_copyOf_23 ?_
    refine j_iload_n K 2 d_Arrays_copyOf_24 rfl rfl ?_
    refine e_mmin K el_Arrays_304 es_mmin ei_Math ec_mmin (by decide) (Nat.le_of_ble_eq_true rfl) (Nat.le_of_ble_eq_true rfl) (Nat.le_of_ble_eq_true rfl) d_Arrays_copyOf_25 ?_
    obtain ⟨v4, e4, h⟩ := wlt_e h
    refine j_eqi e4 ?_
    obtain ⟨q5, h⟩ := wck_e h
    obtain ⟨q6, h⟩ := wck_e h
    obtain ⟨q7, h⟩ := wck_e h
    obtain ⟨κ8, e8, h⟩ := wlt_e h
    refine e_copy K el_Arrays_150 en_copy es_copy ei_System (isK_nw e3 f3 q1) (isK_me e3) (by decide) (by decide) (of_decide_eq_true q5) (of_decide_eq_true q6) (of_decide_eq_true q7) (by decide) (Nat.le_of_ble_eq_true rfl) d_Arrays_copyOf_28 e8 ?_
    refine j_aload_n K 0 d_Arrays_copyOf_31 rfl rfl ?_
    exact wret_q K (v := some n3) rfl h hr (Or.inr ⟨_, rfl⟩) hlk d_Arrays_copyOf_32
  · have h := wif_t h q
    refine j_aload_n K 0 d_Arrays_copyOf_6 rfl rfl ?_
    obtain ⟨q10, h⟩ := wck_e h
    refine e_clone K hN el_Arrays_316 ecl_same ecl_nat ecl_inst ecl_sel q1 401 (of_decide_eq_true q10) (by decide) (Nat.le_of_ble_eq_true rfl) (Nat.le_of_ble_eq_true rfl) (Nat.le_of_ble_eq_true rfl) d_Arrays_copyOf_7 (fun n9 f9 => ?_)
    have h := h n9 f9
    obtain ⟨κ9, e9, h⟩ := wlt_e h
    refine j_eqk e9 ?_
    refine e_castI K cl_Arrays_317 (isK_sai e9 (isK_me rfl)) d_Arrays_copyOf_10 ?_
    exact wret_q K (v := some n9) rfl h hr (Or.inr ⟨_, rfl⟩) hlk d_Arrays_copyOf_13
def w_RuleReader_made (N : Nat) (this : Nat) (κ : Cz) (post : Option Nat → Cz → Prop) : Prop := wnw κ (fun n1 => wlt (nw n1 6 0 κ) (fun κ1 => wck (isK κ1 this 7) (wbo (fr κ1 this 1) (fun o3 => w_Arrays_copyOf N o3 (fi κ1 this 4) κ1 (fun r4 κ4 => wbo (r4) (fun o5 => wck (isK κ4 this 7) (wbo (fr κ4 this 2) (fun o7 => w_Arrays_copyOf N o7 (fi κ4 this 5) κ4 (fun r8 κ8 => wbo (r8) (fun o9 => wck (isK κ8 this 7) (wbo (fr κ8 this 3) (fun o11 => w_Arrays_copyOf N o11 (fi κ8 this 5) κ8 (fun r12 κ12 => wbo (r12) (fun o13 => w_Rule_init N n1 o5 o9 o13 κ12 (fun κ14 => post (some n1) κ14)))))))))))))))
set_option maxHeartbeats 8000000 in
set_option maxRecDepth 100000 in
theorem c_RuleReader_made_wp (l : Launch) (D : va_G) (θ : Tc) (N : Nat) (this : Nat) (κ : Cz) (post : Option Nat → Cz → Prop) (h : w_RuleReader_made N this κ post) : CWq l D θ y_RuleReader_made c_RuleReader_made 1 (some (.object "ErrataRow$Rule")) 2 5 1608 [.ref this] κ post := by
  intro sz
  refine e_met l [.ref this] (by decide +kernel) (Nat.le_of_ble_eq_true rfl) ?_
  intro p e s m args below meth c K hN hr hlk hnm hs
  generalize va_A (wE θ κ) sz = A at K ⊢
  have K : KE p s m args c c_RuleReader_made 1 "ErrataRow$RuleReader" y_RuleReader_made (some (.object "ErrataRow$Rule")) D θ A := K
  show JE p l e (rmA 2 5 1608) s m args below meth c D θ A 1 0 0 (QWq below args s D θ A 5 1608 post) κ [(0, .ref this)] [] 0
  unfold w_RuleReader_made at h
  refine e_new K inX6 tyX6 tyX6_ok cl_RuleReader_25 in_Rule ei_Rule rfl (by decide) fzok_6 (Nat.le_of_ble_eq_true rfl) (Nat.le_of_ble_eq_true rfl) d_RuleReader_made_0 (fun n1 f1 => ?_)
  have h := h n1 f1
  obtain ⟨κ1, e1, h⟩ := wlt_e h
  refine j_eqk e1 ?_
  refine j_dup K d_RuleReader_made_3 rfl ?_
  refine j_aload_n K 0 d_RuleReader_made_4 rfl rfl ?_
  obtain ⟨q2, h⟩ := wck_e h
  refine eg_RuleReader_codes K ef_RuleReader_9 q2 d_RuleReader_made_5 ?_
  obtain ⟨o3, e3, h⟩ := wbo_e h
  refine j_eqq e3 ?_
  refine j_aload_n K 0 d_RuleReader_made_8 rfl rfl ?_
  refine eg_RuleReader_size K ef_RuleReader_27 q2 d_RuleReader_made_9 ?_
  refine wcallS_q K hN (c_Arrays_copyOf_wp l D θ N o3 (fi κ1 this 4) κ1 _ h) eG_RuleReader_31 eh_Arrays_copyOf (rmA_ok (by decide) (by decide)) rfl (st := [.ref n1, .ref n1]) (Nat.le_of_ble_eq_true rfl) rfl d_RuleReader_made_12 ⟨Nat.le_of_ble_eq_true rfl, Nat.le_of_ble_eq_true rfl⟩ ?_
  intro r4 κ4 h
  obtain ⟨o5, e5, h⟩ := wbo_e h
  refine j_eqq e5 ?_
  refine j_aload_n K 0 d_RuleReader_made_15 rfl rfl ?_
  obtain ⟨q6, h⟩ := wck_e h
  refine eg_RuleReader_sumEnds K ef_RuleReader_15 q6 d_RuleReader_made_16 ?_
  obtain ⟨o7, e7, h⟩ := wbo_e h
  refine j_eqq e7 ?_
  refine j_aload_n K 0 d_RuleReader_made_19 rfl rfl ?_
  refine eg_RuleReader_clauses K ef_RuleReader_37 q6 d_RuleReader_made_20 ?_
  refine wcallS_q K hN (c_Arrays_copyOf_wp l D θ N o7 (fi κ4 this 5) κ4 _ h) eG_RuleReader_31 eh_Arrays_copyOf (rmA_ok (by decide) (by decide)) rfl (st := [.ref o5, .ref n1, .ref n1]) (Nat.le_of_ble_eq_true rfl) rfl d_RuleReader_made_23 ⟨Nat.le_of_ble_eq_true rfl, Nat.le_of_ble_eq_true rfl⟩ ?_
  intro r8 κ8 h
  obtain ⟨o9, e9, h⟩ := wbo_e h
  refine j_eqq e9 ?_
  refine j_aload_n K 0 d_RuleReader_made_26 rfl rfl ?_
  obtain ⟨q10, h⟩ := wck_e h
  refine eg_RuleReader_clauseEnds K ef_RuleReader_18 q10 d_RuleReader_made_27 ?_
  obtain ⟨o11, e11, h⟩ := wbo_e h
  refine j_eqq e11 ?_
  refine j_aload_n K 0 d_RuleReader_made_30 rfl rfl ?_
  refine eg_RuleReader_clauses K ef_RuleReader_37 q10 d_RuleReader_made_31 ?_
  refine wcallS_q K hN (c_Arrays_copyOf_wp l D θ N o11 (fi κ8 this 5) κ8 _ h) eG_RuleReader_31 eh_Arrays_copyOf (rmA_ok (by decide) (by decide)) rfl (st := [.ref o9, .ref o5, .ref n1, .ref n1]) (Nat.le_of_ble_eq_true rfl) rfl d_RuleReader_made_34 ⟨Nat.le_of_ble_eq_true rfl, Nat.le_of_ble_eq_true rfl⟩ ?_
  intro r12 κ12 h
  obtain ⟨o13, e13, h⟩ := wbo_e h
  refine j_eqq e13 ?_
  refine wcallI_v K hN (c_Rule_init_wp l D θ N n1 o5 o9 o13 κ12 _ h) ec_Rule_init ei_Rule ej_Rule_init el_RuleReader_40 rfl eh_Rule_init (rmA_ok (by decide) (by decide)) rfl (st := [.ref n1]) (Nat.le_of_ble_eq_true rfl) rfl d_RuleReader_made_37 ⟨Nat.le_of_ble_eq_true rfl, Nat.le_of_ble_eq_true rfl⟩ ?_
  intro κ14 h
  exact wret_q K (v := some n1) rfl h hr (Or.inl ⟨_, rfl⟩) hlk d_RuleReader_made_40
def w_History_init (N : Nat) (this : Nat) (κ : Cz) (post : Cz → Prop) : Prop := wnw κ (fun n1 => wlt (nw n1 23 (20 : Int32).toNatClampNeg κ) (fun κ1 => wck (isK κ1 this 2) (wlt (sfr this 2 (some n1) κ1) (fun κ3 => post κ3))))
set_option maxHeartbeats 8000000 in
set_option maxRecDepth 100000 in
theorem c_History_init_wp (l : Launch) (D : va_G) (θ : Tc) (N : Nat) (this : Nat) (κ : Cz) (post : Cz → Prop) (h : w_History_init N this κ post) : CWv l D θ y_History_init c_History_init 1 none 1 1 20 [.ref this] κ post := by
  intro sz
  refine e_met l [.ref this] (by decide +kernel) (Nat.le_of_ble_eq_true rfl) ?_
  intro p e s m args below meth c K hN hr hlk hnm hs
  generalize va_A (wE θ κ) sz = A at K ⊢
  have K : KE p s m args c c_History_init 1 "ErrataRow$History" y_History_init none D θ A := K
  show JE p l e (rmA 1 1 20) s m args below meth c D θ A 1 0 0 (QWv below args s D θ A 1 20 post) κ [(0, .ref this)] [] 0
  unfold w_History_init at h
  refine j_aload_n K 0 d_History_init_0 rfl rfl ?_
  refine e_objInit K eo_History_3 eo_inst eo_code (by decide) (Nat.le_of_ble_eq_true rfl) d_History_init_1 ?_
  refine j_aload_n K 0 d_History_init_4 rfl rfl ?_
  refine j_bipush (v := 20) K d_History_init_5 (by decide) ?_
  refine e_newq_State K hN cl_History_9 20 (by decide) (by decide) (by decide) (Nat.le_of_ble_eq_true rfl) (Nat.le_of_ble_eq_true rfl) d_History_init_7 (fun n1 f1 => ?_)
  have h := h n1 f1
  obtain ⟨κ1, e1, h⟩ := wlt_e h
  refine j_eqk e1 ?_
  obtain ⟨q2, h⟩ := wck_e h
  obtain ⟨κ3, e3, h⟩ := wlt_e h
  refine e_putFr K inX2 tyX2 tyX2_ok nmX2 rfl (by decide) q2 2 (by decide) (by decide) rfl ef_History_11 rfl hnm rfl (ty := tyX2 2) (by decide +kernel) rfl rfl d_History_init_10 e3 ?_
  exact wret_v K h hr hlk d_History_init_13
def wb_History_keep_32 (N : Nat) (post : Cz → Prop) (x0 : Nat) (x1 : Nat) (x2 : Nat) (κ : Cz) : Prop := wck (isK κ x2 8) (wbo (p_State_copyFrom N x2 x1 κ) (fun κ15 => wck (isK κ15 x0 2) (wlt (((fi κ15 x0 1) + 1) - ((fi κ15 x0 1) + 1) / 20 * 20) (fun v18 => wlt (sfi x0 1 v18 κ15) (fun κ19 => wlt (if 20 < ((fi κ19 x0 0) + 1) then 20 else ((fi κ19 x0 0) + 1)) (fun v20 => wlt (sfi x0 0 v20 κ19) (fun κ21 => post κ21)))))))
set_option maxHeartbeats 4000000 in
set_option maxRecDepth 100000 in
theorem wt_History_keep_32 {p : Program} {l : Launch} {e : Env} {s : State} {m : MethodId} {args : Array Value} {below : List Frame} {meth : Method} {c : Code} {D : va_G} {θ : Tc} {A : Nat → Prop} (K : KE p s m args c c_History_keep 3 "ErrataRow$History" y_History_keep none D θ A) (hN : NX s) (hr : meth.sig.returnType = none) (hlk : meth.locks = false) (hnm : meth.name = y_History_keep.name) (N : Nat) (post : Cz → Prop) (x0 : Nat) (x1 : Nat) (x2 : Nat) (κ : Cz) (h : wb_History_keep_32 N post x0 x1 x2 κ) : JE p l e (rmA 2 4 36) s m args below meth c D θ A 3 4 36 (QWv below args s D θ A 4 36 post) κ [(0, .ref x0), (1, .ref x1), (2, .ref x2)] [] 32 := by
  unfold wb_History_keep_32 at h
  refine j_aload_n K 2 d_History_keep_32 rfl rfl ?_
  refine j_aload_n K 1 d_History_keep_33 rfl rfl ?_
  obtain ⟨q16, h⟩ := wck_e h
  obtain ⟨κ15, e15, h⟩ := wbo_e h
  refine ecallV_v K hN (c_State_copyFrom_ok l D θ N x2 x1 κ _ e15) eG_History_22 eh_State_copyFrom (by decide) (rmA_ok (by decide) (by decide)) rfl q16 (by decide) rfl (st := []) (Nat.le_of_ble_eq_true rfl) rfl d_History_keep_34 ⟨Nat.le_of_ble_eq_true rfl, Nat.le_of_ble_eq_true rfl⟩ ?_
  refine j_aload_n K 0 d_History_keep_37 rfl rfl ?_
  refine j_aload_n K 0 d_History_keep_38 rfl rfl ?_
  obtain ⟨q17, h⟩ := wck_e h
  refine eg_History_next K ef_History_17 q17 d_History_keep_39 ?_
  refine j_iconst (v := 1) K d_History_keep_42 (by decide) ?_
  refine j_iadd K d_History_keep_43 ?_
  refine j_bipush (v := 20) K d_History_keep_44 (by decide) ?_
  refine j_irem K d_History_keep_46 (by decide) ?_
  obtain ⟨v18, e18, h⟩ := wlt_e h
  refine j_eqi e18 ?_
  obtain ⟨κ19, e19, h⟩ := wlt_e h
  refine ep_History_next K ef_History_17 q17 d_History_keep_47 e19 ?_
  refine j_aload_n K 0 d_History_keep_50 rfl rfl ?_
  refine j_aload_n K 0 d_History_keep_51 rfl rfl ?_
  refine eg_History_size K ef_History_26 (isK_sfi e19 q17) d_History_keep_52 ?_
  refine j_iconst (v := 1) K d_History_keep_55 (by decide) ?_
  refine j_iadd K d_History_keep_56 ?_
  refine j_bipush (v := 20) K d_History_keep_57 (by decide) ?_
  refine e_mmin K el_History_29 es_mmin ei_Math ec_mmin (by decide) (Nat.le_of_ble_eq_true rfl) (Nat.le_of_ble_eq_true rfl) (Nat.le_of_ble_eq_true rfl) d_History_keep_59 ?_
  obtain ⟨v20, e20, h⟩ := wlt_e h
  refine j_eqi e20 ?_
  obtain ⟨κ21, e21, h⟩ := wlt_e h
  refine ep_History_size K ef_History_26 (isK_sfi e19 q17) d_History_keep_62 e21 ?_
  exact wret_v K h hr hlk d_History_keep_65
def wb_History_keep_32_1 (N : Nat) (post : Cz → Prop) (x0 : Nat) (x1 : Nat) (x2 : Nat) (κ : Cz) : Prop := wck (isK κ x2 8) (wbo (p_State_copyFrom N x2 x1 κ) (fun κ22 => wck (isK κ22 x0 2) (wlt (((fi κ22 x0 1) + 1) - ((fi κ22 x0 1) + 1) / 20 * 20) (fun v25 => wlt (sfi x0 1 v25 κ22) (fun κ26 => wlt (if 20 < ((fi κ26 x0 0) + 1) then 20 else ((fi κ26 x0 0) + 1)) (fun v27 => wlt (sfi x0 0 v27 κ26) (fun κ28 => post κ28)))))))
set_option maxHeartbeats 4000000 in
set_option maxRecDepth 100000 in
theorem wt_History_keep_32_1 {p : Program} {l : Launch} {e : Env} {s : State} {m : MethodId} {args : Array Value} {below : List Frame} {meth : Method} {c : Code} {D : va_G} {θ : Tc} {A : Nat → Prop} (K : KE p s m args c c_History_keep 3 "ErrataRow$History" y_History_keep none D θ A) (hN : NX s) (hr : meth.sig.returnType = none) (hlk : meth.locks = false) (hnm : meth.name = y_History_keep.name) (N : Nat) (post : Cz → Prop) (x0 : Nat) (x1 : Nat) (x2 : Nat) (κ : Cz) (h : wb_History_keep_32_1 N post x0 x1 x2 κ) : JE p l e (rmA 2 4 36) s m args below meth c D θ A 3 0 0 (QWv below args s D θ A 4 36 post) κ [(0, .ref x0), (1, .ref x1), (2, .ref x2)] [] 32 := by
  unfold wb_History_keep_32_1 at h
  refine j_aload_n K 2 d_History_keep_32 rfl rfl ?_
  refine j_aload_n K 1 d_History_keep_33 rfl rfl ?_
  obtain ⟨q23, h⟩ := wck_e h
  obtain ⟨κ22, e22, h⟩ := wbo_e h
  refine ecallV_v K hN (c_State_copyFrom_ok l D θ N x2 x1 κ _ e22) eG_History_22 eh_State_copyFrom (by decide) (rmA_ok (by decide) (by decide)) rfl q23 (by decide) rfl (st := []) (Nat.le_of_ble_eq_true rfl) rfl d_History_keep_34 ⟨Nat.le_of_ble_eq_true rfl, Nat.le_of_ble_eq_true rfl⟩ ?_
  refine j_aload_n K 0 d_History_keep_37 rfl rfl ?_
  refine j_aload_n K 0 d_History_keep_38 rfl rfl ?_
  obtain ⟨q24, h⟩ := wck_e h
  refine eg_History_next K ef_History_17 q24 d_History_keep_39 ?_
  refine j_iconst (v := 1) K d_History_keep_42 (by decide) ?_
  refine j_iadd K d_History_keep_43 ?_
  refine j_bipush (v := 20) K d_History_keep_44 (by decide) ?_
  refine j_irem K d_History_keep_46 (by decide) ?_
  obtain ⟨v25, e25, h⟩ := wlt_e h
  refine j_eqi e25 ?_
  obtain ⟨κ26, e26, h⟩ := wlt_e h
  refine ep_History_next K ef_History_17 q24 d_History_keep_47 e26 ?_
  refine j_aload_n K 0 d_History_keep_50 rfl rfl ?_
  refine j_aload_n K 0 d_History_keep_51 rfl rfl ?_
  refine eg_History_size K ef_History_26 (isK_sfi e26 q24) d_History_keep_52 ?_
  refine j_iconst (v := 1) K d_History_keep_55 (by decide) ?_
  refine j_iadd K d_History_keep_56 ?_
  refine j_bipush (v := 20) K d_History_keep_57 (by decide) ?_
  refine e_mmin K el_History_29 es_mmin ei_Math ec_mmin (by decide) (Nat.le_of_ble_eq_true rfl) (Nat.le_of_ble_eq_true rfl) (Nat.le_of_ble_eq_true rfl) d_History_keep_59 ?_
  obtain ⟨v27, e27, h⟩ := wlt_e h
  refine j_eqi e27 ?_
  obtain ⟨κ28, e28, h⟩ := wlt_e h
  refine ep_History_size K ef_History_26 (isK_sfi e26 q24) d_History_keep_62 e28 ?_
  refine e_widen (a := 4) (b := 36) (by decide) (by decide) ?_
  exact wret_v K h hr hlk d_History_keep_65
def w_History_keep (N : Nat) (this : Nat) (a1 : Nat) (κ : Cz) (post : Cz → Prop) : Prop := wck (isK κ this 2) (wbo (fr κ this 2) (fun o2 => wlt (fi κ this 1) (fun v3 => wck (isK κ o2 23) (wck (inb v3 (ln κ o2)) (woc (aq κ o2 v3.toNatClampNeg) (wnw κ (fun n7 => wlt (nw n7 8 0 κ) (fun κ7 => w_State_init N n7 κ7 (fun κ8 => wck (isK κ8 this 2) (wbo (fr κ8 this 2) (fun o10 => wck (isK κ8 o10 23) (wck (isK κ8 n7 8) (wck (inb (fi κ8 this 1) (ln κ8 o10)) (wlt (saq o10 (va_up (aq κ8 o10) (fi κ8 this 1).toNatClampNeg (some n7)) κ8) (fun κ14 => wb_History_keep_32 N post this a1 n7 κ14)))))))))) (fun o6 => wb_History_keep_32_1 N post this a1 o6 κ))))))
set_option maxHeartbeats 8000000 in
set_option maxRecDepth 100000 in
theorem c_History_keep_wp (l : Launch) (D : va_G) (θ : Tc) (N : Nat) (this : Nat) (a1 : Nat) (κ : Cz) (post : Cz → Prop) (h : w_History_keep N this a1 κ post) : CWv l D θ y_History_keep c_History_keep 3 none 2 4 36 [.ref this, .ref a1] κ post := by
  intro sz
  refine e_met l [.ref this, .ref a1] (by decide +kernel) (Nat.le_of_ble_eq_true rfl) ?_
  intro p e s m args below meth c K hN hr hlk hnm hs
  generalize va_A (wE θ κ) sz = A at K ⊢
  have K : KE p s m args c c_History_keep 3 "ErrataRow$History" y_History_keep none D θ A := K
  show JE p l e (rmA 2 4 36) s m args below meth c D θ A 3 0 0 (QWv below args s D θ A 4 36 post) κ [(0, .ref this), (1, .ref a1)] [] 0
  unfold w_History_keep at h
  refine j_aload_n K 0 d_History_keep_0 rfl rfl ?_
  obtain ⟨q1, h⟩ := wck_e h
  refine eg_History_states K ef_History_11 q1 d_History_keep_1 ?_
  obtain ⟨o2, e2, h⟩ := wbo_e h
  refine j_eqq e2 ?_
  refine j_aload_n K 0 d_History_keep_4 rfl rfl ?_
  refine eg_History_next K ef_History_17 q1 d_History_keep_5 ?_
  obtain ⟨v3, e3, h⟩ := wlt_e h
  refine j_eqi e3 ?_
  obtain ⟨q4, h⟩ := wck_e h
  obtain ⟨q5, h⟩ := wck_e h
  refine e_ald_State K q4 (inb_e q5) d_History_keep_8 ?_
  rcases woc_e h with ⟨e6, h⟩ | ⟨o6, e6, h⟩
  · refine j_eqn e6 ?_
    refine e_astore_nN (lv' := [(2, .null), (0, .ref this), (1, .ref a1)]) K d_History_keep_9 rfl (by decide) rfl ?_
    refine e_aload_nN K 0 d_History_keep_10 rfl rfl ?_
    refine e_ifnonnullN K d_History_keep_11 ?_
    refine e_new K inX8 tyX8 tyX8_ok cl_History_9 in_State ei_State rfl (by decide) fzok_8 (Nat.le_of_ble_eq_true rfl) (Nat.le_of_ble_eq_true rfl) d_History_keep_14 (fun n7 f7 => ?_)
    have h := h n7 f7
    obtain ⟨κ7, e7, h⟩ := wlt_e h
    refine j_eqk e7 ?_
    refine j_dup K d_History_keep_17 rfl ?_
    refine wcallJ_v K hN (c_State_init_wp l D θ N n7 κ7 _ h) ec_State_init ei_State ej_State_init (NX_History_21 hN) rfl eh_State_init (rmA_ok (by decide) (by decide)) rfl (st := [.ref n7]) (Nat.le_of_ble_eq_true rfl) rfl d_History_keep_18 ⟨Nat.le_of_ble_eq_true rfl, Nat.le_of_ble_eq_true rfl⟩ ?_
    intro κ8 h
    refine j_astore_n (lv' := [(2, .ref n7), (0, .ref this), (1, .ref a1)]) K d_History_keep_21 rfl (by decide) rfl ?_
    refine j_aload_n K 1 d_History_keep_22 rfl rfl ?_
    obtain ⟨q9, h⟩ := wck_e h
    refine eg_History_states K ef_History_11 q9 d_History_keep_23 ?_
    obtain ⟨o10, e10, h⟩ := wbo_e h
    refine j_eqq e10 ?_
    refine j_aload_n K 1 d_History_keep_26 rfl rfl ?_
    refine eg_History_next K ef_History_17 q9 d_History_keep_27 ?_
    refine j_aload_n K 0 d_History_keep_30 rfl rfl ?_
    obtain ⟨q11, h⟩ := wck_e h
    obtain ⟨q12, h⟩ := wck_e h
    obtain ⟨q13, h⟩ := wck_e h
    obtain ⟨κ14, e14, h⟩ := wlt_e h
    refine e_ast_State K q11 q12 (inb_e q13) d_History_keep_31 e14 ?_
    refine j_sub [1, 2, 0] rfl ?_
    exact wt_History_keep_32 K hN hr hlk hnm N post this a1 n7 κ14 h
  · refine j_eqq e6 ?_
    refine j_astore_n (lv' := [(2, .ref o6), (0, .ref this), (1, .ref a1)]) K d_History_keep_9 rfl (by decide) rfl ?_
    refine j_aload_n K 0 d_History_keep_10 rfl rfl ?_
    refine e_ifnonnull (tgt := 32) K d_History_keep_11 (by decide) ?_
    refine j_sub [1, 2, 0] rfl ?_
    exact wt_History_keep_32_1 K hN hr hlk hnm N post this a1 o6 κ h
def w_Press_init (N : Nat) (this : Nat) (a1 : Nat) (κ : Cz) (post : Cz → Prop) : Prop := wnw κ (fun n1 => wlt (nw n1 21 (12 : Int32).toNatClampNeg κ) (fun κ1 => wck (isK κ1 this 4) (wlt (sfr this 1 (some n1) κ1) (fun κ3 => wlt (sfi this 3 (-1) κ3) (fun κ4 => wlt (sfr this 0 (some a1) κ4) (fun κ5 => post κ5))))))
set_option maxHeartbeats 8000000 in
set_option maxRecDepth 100000 in
theorem c_Press_init_wp (l : Launch) (D : va_G) (θ : Tc) (N : Nat) (this : Nat) (a1 : Nat) (κ : Cz) (post : Cz → Prop) (h : w_Press_init N this a1 κ post) : CWv l D θ y_Press_init c_Press_init 2 none 1 1 12 [.ref this, .ref a1] κ post := by
  intro sz
  refine e_met l [.ref this, .ref a1] (by decide +kernel) (Nat.le_of_ble_eq_true rfl) ?_
  intro p e s m args below meth c K hN hr hlk hnm hs
  generalize va_A (wE θ κ) sz = A at K ⊢
  have K : KE p s m args c c_Press_init 2 "ErrataRow$Press" y_Press_init none D θ A := K
  show JE p l e (rmA 1 1 12) s m args below meth c D θ A 2 0 0 (QWv below args s D θ A 1 12 post) κ [(0, .ref this), (1, .ref a1)] [] 0
  unfold w_Press_init at h
  refine j_aload_n K 0 d_Press_init_0 rfl rfl ?_
  refine e_objInit K eo_Press_3 eo_inst eo_code (by decide) (Nat.le_of_ble_eq_true rfl) d_Press_init_1 ?_
  refine j_aload_n K 0 d_Press_init_4 rfl rfl ?_
  refine j_bipush (v := 12) K d_Press_init_5 (by decide) ?_
  refine e_newal K ea_long 12 (by decide) (by decide) (by decide) (Nat.le_of_ble_eq_true rfl) (Nat.le_of_ble_eq_true rfl) d_Press_init_7 (fun n1 f1 => ?_)
  have h := h n1 f1
  obtain ⟨κ1, e1, h⟩ := wlt_e h
  refine j_eqk e1 ?_
  obtain ⟨q2, h⟩ := wck_e h
  obtain ⟨κ3, e3, h⟩ := wlt_e h
  refine e_putFr K inX4 tyX4 tyX4_ok nmX4 rfl (by decide) q2 1 (by decide) (by decide) rfl ef_Press_11 rfl hnm rfl (ty := tyX4 1) (by decide +kernel) rfl rfl d_Press_init_9 e3 ?_
  refine j_aload_n K 0 d_Press_init_12 rfl rfl ?_
  refine j_iconst (v := (-1)) K d_Press_init_13 (by decide) ?_
  obtain ⟨κ4, e4, h⟩ := wlt_e h
  refine ep_Press_leftOff K ef_Press_17 (isK_sfr e3 q2) d_Press_init_14 e4 ?_
  refine j_aload_n K 0 d_Press_init_17 rfl rfl ?_
  refine j_aload_n K 1 d_Press_init_18 rfl rfl ?_
  obtain ⟨κ5, e5, h⟩ := wlt_e h
  refine e_putFr K inX4 tyX4 tyX4_ok nmX4 rfl (by decide) (isK_sfi e4 (isK_sfr e3 q2)) 0 (by decide) (by decide) rfl ef_Press_21 rfl hnm rfl (ty := tyX4 0) (by decide +kernel) rfl rfl d_Press_init_19 e5 ?_
  exact wret_v K h hr hlk d_Press_init_22
def w_RowSearch_init (N : Nat) (this : Nat) (a1 : Nat) (κ : Cz) (post : Cz → Prop) : Prop := wnw κ (fun n1 => wlt (nw n1 23 (5 : Int32).toNatClampNeg κ) (fun κ1 => wck (isK κ1 this 5) (wlt (sfr this 1 (some n1) κ1) (fun κ3 => wnw κ3 (fun n4 => wlt (nw n4 20 (4 : Int32).toNatClampNeg κ3) (fun κ4 => wlt (sfr this 2 (some n4) κ4) (fun κ5 => wnw κ5 (fun n6 => wlt (nw n6 20 (4 : Int32).toNatClampNeg κ5) (fun κ6 => wlt (sfr this 3 (some n6) κ6) (fun κ7 => wlt (sfr this 0 (some a1) κ7) (fun κ8 => wbo (fr κ8 this 1) (fun o9 => wnw κ8 (fun n10 => wlt (nw n10 8 0 κ8) (fun κ10 => w_State_init N n10 κ10 (fun κ11 => wck (isK κ11 o9 23) (wck (isK κ11 n10 8) (wck (inb (0 : Int32) (ln κ11 o9)) (wlt (saq o9 (va_up (aq κ11 o9) (0 : Int32).toNatClampNeg (some n10)) κ11) (fun κ15 => wck (isK κ15 this 5) (wbo (fr κ15 this 1) (fun o17 => wnw κ15 (fun n18 => wlt (nw n18 8 0 κ15) (fun κ18 => w_State_init N n18 κ18 (fun κ19 => wck (isK κ19 o17 23) (wck (isK κ19 n18 8) (wck (inb (1 : Int32) (ln κ19 o17)) (wlt (saq o17 (va_up (aq κ19 o17) (1 : Int32).toNatClampNeg (some n18)) κ19) (fun κ23 => wck (isK κ23 this 5) (wbo (fr κ23 this 1) (fun o25 => wnw κ23 (fun n26 => wlt (nw n26 8 0 κ23) (fun κ26 => w_State_init N n26 κ26 (fun κ27 => wck (isK κ27 o25 23) (wck (isK κ27 n26 8) (wck (inb (2 : Int32) (ln κ27 o25)) (wlt (saq o25 (va_up (aq κ27 o25) (2 : Int32).toNatClampNeg (some n26)) κ27) (fun κ31 => wck (isK κ31 this 5) (wbo (fr κ31 this 1) (fun o33 => wnw κ31 (fun n34 => wlt (nw n34 8 0 κ31) (fun κ34 => w_State_init N n34 κ34 (fun κ35 => wck (isK κ35 o33 23) (wck (isK κ35 n34 8) (wck (inb (3 : Int32) (ln κ35 o33)) (wlt (saq o33 (va_up (aq κ35 o33) (3 : Int32).toNatClampNeg (some n34)) κ35) (fun κ39 => wck (isK κ39 this 5) (wbo (fr κ39 this 1) (fun o41 => wnw κ39 (fun n42 => wlt (nw n42 8 0 κ39) (fun κ42 => w_State_init N n42 κ42 (fun κ43 => wck (isK κ43 o41 23) (wck (isK κ43 n42 8) (wck (inb (4 : Int32) (ln κ43 o41)) (wlt (saq o41 (va_up (aq κ43 o41) (4 : Int32).toNatClampNeg (some n42)) κ43) (fun κ47 => post κ47)))))))))))))))))))))))))))))))))))))))))))))))))))))))
set_option maxHeartbeats 8000000 in
set_option maxRecDepth 100000 in
theorem c_RowSearch_init_wp (l : Launch) (D : va_G) (θ : Tc) (N : Nat) (this : Nat) (a1 : Nat) (κ : Cz) (post : Cz → Prop) (h : w_RowSearch_init N this a1 κ post) : CWv l D θ y_RowSearch_init c_RowSearch_init 3 none 2 23 193 [.ref this, .ref a1] κ post := by
  intro sz
  refine e_met l [.ref this, .ref a1] (by decide +kernel) (Nat.le_of_ble_eq_true rfl) ?_
  intro p e s m args below meth c K hN hr hlk hnm hs
  generalize va_A (wE θ κ) sz = A at K ⊢
  have K : KE p s m args c c_RowSearch_init 3 "ErrataRow$RowSearch" y_RowSearch_init none D θ A := K
  show JE p l e (rmA 2 23 193) s m args below meth c D θ A 3 0 0 (QWv below args s D θ A 23 193 post) κ [(0, .ref this), (1, .ref a1)] [] 0
  unfold w_RowSearch_init at h
  refine j_aload_n K 0 d_RowSearch_init_0 rfl rfl ?_
  refine e_objInit K eo_RowSearch_3 eo_inst eo_code (by decide) (Nat.le_of_ble_eq_true rfl) d_RowSearch_init_1 ?_
  refine j_aload_n K 0 d_RowSearch_init_4 rfl rfl ?_
  refine j_iconst (v := 5) K d_RowSearch_init_5 (by decide) ?_
  refine e_newq_State K hN cl_RowSearch_9 5 (by decide) (by decide) (by decide) (Nat.le_of_ble_eq_true rfl) (Nat.le_of_ble_eq_true rfl) d_RowSearch_init_6 (fun n1 f1 => ?_)
  have h := h n1 f1
  obtain ⟨κ1, e1, h⟩ := wlt_e h
  refine j_eqk e1 ?_
  obtain ⟨q2, h⟩ := wck_e h
  obtain ⟨κ3, e3, h⟩ := wlt_e h
  refine e_putFr K inX5 tyX5 tyX5_ok nmX5 rfl (by decide) q2 1 (by decide) (by decide) rfl ef_RowSearch_11 rfl hnm rfl (ty := tyX5 1) (by decide +kernel) rfl rfl d_RowSearch_init_9 e3 ?_
  refine j_aload_n K 0 d_RowSearch_init_12 rfl rfl ?_
  refine j_iconst (v := 4) K d_RowSearch_init_13 (by decide) ?_
  refine e_newai K ea_int 4 (by decide) (by decide) (by decide) (Nat.le_of_ble_eq_true rfl) (Nat.le_of_ble_eq_true rfl) d_RowSearch_init_14 (fun n4 f4 => ?_)
  have h := h n4 f4
  obtain ⟨κ4, e4, h⟩ := wlt_e h
  refine j_eqk e4 ?_
  obtain ⟨κ5, e5, h⟩ := wlt_e h
  refine e_putFr K inX5 tyX5 tyX5_ok nmX5 rfl (by decide) (isK_nw e4 f4 (isK_sfr e3 q2)) 2 (by decide) (by decide) rfl ef_RowSearch_17 rfl hnm rfl (ty := tyX5 2) (by decide +kernel) rfl rfl d_RowSearch_init_16 e5 ?_
  refine j_aload_n K 0 d_RowSearch_init_19 rfl rfl ?_
  refine j_iconst (v := 4) K d_RowSearch_init_20 (by decide) ?_
  refine e_newai K ea_int 4 (by decide) (by decide) (by decide) (Nat.le_of_ble_eq_true rfl) (Nat.le_of_ble_eq_true rfl) d_RowSearch_init_21 (fun n6 f6 => ?_)
  have h := h n6 f6
  obtain ⟨κ6, e6, h⟩ := wlt_e h
  refine j_eqk e6 ?_
  obtain ⟨κ7, e7, h⟩ := wlt_e h
  refine e_putFr K inX5 tyX5 tyX5_ok nmX5 rfl (by decide) (isK_nw e6 f6 (isK_sfr e5 (isK_nw e4 f4 (isK_sfr e3 q2)))) 3 (by decide) (by decide) rfl ef_RowSearch_21 rfl hnm rfl (ty := tyX5 3) (by decide +kernel) rfl rfl d_RowSearch_init_23 e7 ?_
  refine j_aload_n K 0 d_RowSearch_init_26 rfl rfl ?_
  refine j_aload_n K 1 d_RowSearch_init_27 rfl rfl ?_
  obtain ⟨κ8, e8, h⟩ := wlt_e h
  refine e_putFr K inX5 tyX5 tyX5_ok nmX5 rfl (by decide) (isK_sfr e7 (isK_nw e6 f6 (isK_sfr e5 (isK_nw e4 f4 (isK_sfr e3 q2))))) 0 (by decide) (by decide) rfl ef_RowSearch_24 rfl hnm rfl (ty := tyX5 0) (by decide +kernel) rfl rfl d_RowSearch_init_28 e8 ?_
  refine j_iconst (v := 0) K d_RowSearch_init_31 (by decide) ?_
  refine j_istore_n (lv' := [(2, .int 0), (0, .ref this), (1, .ref a1)]) K d_RowSearch_init_32 rfl (by decide) rfl ?_
  refine j_iload_n K 0 d_RowSearch_init_33 rfl rfl ?_
  refine j_iconst (v := 4) K d_RowSearch_init_34 (by decide) ?_
  refine j_icmp_gt (tgt := 57) K d_RowSearch_init_35 (by decide) (fun q => absurd q (by decide)) (fun q => ?_)
  refine j_aload_n K 1 d_RowSearch_init_38 rfl rfl ?_
  refine eg_RowSearch_states K ef_RowSearch_11 (isK_sfr e8 (isK_sfr e7 (isK_nw e6 f6 (isK_sfr e5 (isK_nw e4 f4 (isK_sfr e3 q2)))))) d_RowSearch_init_39 ?_
  obtain ⟨o9, e9, h⟩ := wbo_e h
  refine j_eqq e9 ?_
  refine j_iload_n K 0 d_RowSearch_init_42 rfl rfl ?_
  refine e_new K inX8 tyX8 tyX8_ok cl_RowSearch_9 in_State ei_State rfl (by decide) fzok_8 (Nat.le_of_ble_eq_true rfl) (Nat.le_of_ble_eq_true rfl) d_RowSearch_init_43 (fun n10 f10 => ?_)
  have h := h n10 f10
  obtain ⟨κ10, e10, h⟩ := wlt_e h
  refine j_eqk e10 ?_
  refine j_dup K d_RowSearch_init_46 rfl ?_
  refine wcallJ_v K hN (c_State_init_wp l D θ N n10 κ10 _ h) ec_State_init ei_State ej_State_init (NX_RowSearch_28 hN) rfl eh_State_init (rmA_ok (by decide) (by decide)) rfl (st := [.ref n10, .int 0, .ref o9]) (Nat.le_of_ble_eq_true rfl) rfl d_RowSearch_init_47 ⟨Nat.le_of_ble_eq_true rfl, Nat.le_of_ble_eq_true rfl⟩ ?_
  intro κ11 h
  obtain ⟨q12, h⟩ := wck_e h
  obtain ⟨q13, h⟩ := wck_e h
  obtain ⟨q14, h⟩ := wck_e h
  obtain ⟨κ15, e15, h⟩ := wlt_e h
  refine e_ast_State K q12 q13 (inb_e q14) d_RowSearch_init_50 e15 ?_
  refine j_iinc (k := 0) (v := 1) (lv' := [(2, .int 1), (0, .ref this), (1, .ref a1)]) K d_RowSearch_init_51 rfl (by decide) (by decide) rfl ?_
  refine j_goto (tgt := 33) K d_RowSearch_init_54 (by decide) ?_
  refine j_iload_n K 0 d_RowSearch_init_33 rfl rfl ?_
  refine j_iconst (v := 4) K d_RowSearch_init_34 (by decide) ?_
  refine j_icmp_gt (tgt := 57) K d_RowSearch_init_35 (by decide) (fun q => absurd q (by decide)) (fun q => ?_)
  refine j_aload_n K 1 d_RowSearch_init_38 rfl rfl ?_
  obtain ⟨q16, h⟩ := wck_e h
  refine eg_RowSearch_states K ef_RowSearch_11 q16 d_RowSearch_init_39 ?_
  obtain ⟨o17, e17, h⟩ := wbo_e h
  refine j_eqq e17 ?_
  refine j_iload_n K 0 d_RowSearch_init_42 rfl rfl ?_
  refine e_new K inX8 tyX8 tyX8_ok cl_RowSearch_9 in_State ei_State rfl (by decide) fzok_8 (Nat.le_of_ble_eq_true rfl) (Nat.le_of_ble_eq_true rfl) d_RowSearch_init_43 (fun n18 f18 => ?_)
  have h := h n18 f18
  obtain ⟨κ18, e18, h⟩ := wlt_e h
  refine j_eqk e18 ?_
  refine j_dup K d_RowSearch_init_46 rfl ?_
  refine wcallJ_v K hN (c_State_init_wp l D θ N n18 κ18 _ h) ec_State_init ei_State ej_State_init (NX_RowSearch_28 hN) rfl eh_State_init (rmA_ok (by decide) (by decide)) rfl (st := [.ref n18, .int 1, .ref o17]) (Nat.le_of_ble_eq_true rfl) rfl d_RowSearch_init_47 ⟨Nat.le_of_ble_eq_true rfl, Nat.le_of_ble_eq_true rfl⟩ ?_
  intro κ19 h
  obtain ⟨q20, h⟩ := wck_e h
  obtain ⟨q21, h⟩ := wck_e h
  obtain ⟨q22, h⟩ := wck_e h
  obtain ⟨κ23, e23, h⟩ := wlt_e h
  refine e_ast_State K q20 q21 (inb_e q22) d_RowSearch_init_50 e23 ?_
  refine j_iinc (k := 0) (v := 2) (lv' := [(2, .int 2), (0, .ref this), (1, .ref a1)]) K d_RowSearch_init_51 rfl (by decide) (by decide) rfl ?_
  refine j_goto (tgt := 33) K d_RowSearch_init_54 (by decide) ?_
  refine j_iload_n K 0 d_RowSearch_init_33 rfl rfl ?_
  refine j_iconst (v := 4) K d_RowSearch_init_34 (by decide) ?_
  refine j_icmp_gt (tgt := 57) K d_RowSearch_init_35 (by decide) (fun q => absurd q (by decide)) (fun q => ?_)
  refine j_aload_n K 1 d_RowSearch_init_38 rfl rfl ?_
  obtain ⟨q24, h⟩ := wck_e h
  refine eg_RowSearch_states K ef_RowSearch_11 q24 d_RowSearch_init_39 ?_
  obtain ⟨o25, e25, h⟩ := wbo_e h
  refine j_eqq e25 ?_
  refine j_iload_n K 0 d_RowSearch_init_42 rfl rfl ?_
  refine e_new K inX8 tyX8 tyX8_ok cl_RowSearch_9 in_State ei_State rfl (by decide) fzok_8 (Nat.le_of_ble_eq_true rfl) (Nat.le_of_ble_eq_true rfl) d_RowSearch_init_43 (fun n26 f26 => ?_)
  have h := h n26 f26
  obtain ⟨κ26, e26, h⟩ := wlt_e h
  refine j_eqk e26 ?_
  refine j_dup K d_RowSearch_init_46 rfl ?_
  refine wcallJ_v K hN (c_State_init_wp l D θ N n26 κ26 _ h) ec_State_init ei_State ej_State_init (NX_RowSearch_28 hN) rfl eh_State_init (rmA_ok (by decide) (by decide)) rfl (st := [.ref n26, .int 2, .ref o25]) (Nat.le_of_ble_eq_true rfl) rfl d_RowSearch_init_47 ⟨Nat.le_of_ble_eq_true rfl, Nat.le_of_ble_eq_true rfl⟩ ?_
  intro κ27 h
  obtain ⟨q28, h⟩ := wck_e h
  obtain ⟨q29, h⟩ := wck_e h
  obtain ⟨q30, h⟩ := wck_e h
  obtain ⟨κ31, e31, h⟩ := wlt_e h
  refine e_ast_State K q28 q29 (inb_e q30) d_RowSearch_init_50 e31 ?_
  refine j_iinc (k := 0) (v := 3) (lv' := [(2, .int 3), (0, .ref this), (1, .ref a1)]) K d_RowSearch_init_51 rfl (by decide) (by decide) rfl ?_
  refine j_goto (tgt := 33) K d_RowSearch_init_54 (by decide) ?_
  refine j_iload_n K 0 d_RowSearch_init_33 rfl rfl ?_
  refine j_iconst (v := 4) K d_RowSearch_init_34 (by decide) ?_
  refine j_icmp_gt (tgt := 57) K d_RowSearch_init_35 (by decide) (fun q => absurd q (by decide)) (fun q => ?_)
  refine j_aload_n K 1 d_RowSearch_init_38 rfl rfl ?_
  obtain ⟨q32, h⟩ := wck_e h
  refine eg_RowSearch_states K ef_RowSearch_11 q32 d_RowSearch_init_39 ?_
  obtain ⟨o33, e33, h⟩ := wbo_e h
  refine j_eqq e33 ?_
  refine j_iload_n K 0 d_RowSearch_init_42 rfl rfl ?_
  refine e_new K inX8 tyX8 tyX8_ok cl_RowSearch_9 in_State ei_State rfl (by decide) fzok_8 (Nat.le_of_ble_eq_true rfl) (Nat.le_of_ble_eq_true rfl) d_RowSearch_init_43 (fun n34 f34 => ?_)
  have h := h n34 f34
  obtain ⟨κ34, e34, h⟩ := wlt_e h
  refine j_eqk e34 ?_
  refine j_dup K d_RowSearch_init_46 rfl ?_
  refine wcallJ_v K hN (c_State_init_wp l D θ N n34 κ34 _ h) ec_State_init ei_State ej_State_init (NX_RowSearch_28 hN) rfl eh_State_init (rmA_ok (by decide) (by decide)) rfl (st := [.ref n34, .int 3, .ref o33]) (Nat.le_of_ble_eq_true rfl) rfl d_RowSearch_init_47 ⟨Nat.le_of_ble_eq_true rfl, Nat.le_of_ble_eq_true rfl⟩ ?_
  intro κ35 h
  obtain ⟨q36, h⟩ := wck_e h
  obtain ⟨q37, h⟩ := wck_e h
  obtain ⟨q38, h⟩ := wck_e h
  obtain ⟨κ39, e39, h⟩ := wlt_e h
  refine e_ast_State K q36 q37 (inb_e q38) d_RowSearch_init_50 e39 ?_
  refine j_iinc (k := 0) (v := 4) (lv' := [(2, .int 4), (0, .ref this), (1, .ref a1)]) K d_RowSearch_init_51 rfl (by decide) (by decide) rfl ?_
  refine j_goto (tgt := 33) K d_RowSearch_init_54 (by decide) ?_
  refine j_iload_n K 0 d_RowSearch_init_33 rfl rfl ?_
  refine j_iconst (v := 4) K d_RowSearch_init_34 (by decide) ?_
  refine j_icmp_gt (tgt := 57) K d_RowSearch_init_35 (by decide) (fun q => absurd q (by decide)) (fun q => ?_)
  refine j_aload_n K 1 d_RowSearch_init_38 rfl rfl ?_
  obtain ⟨q40, h⟩ := wck_e h
  refine eg_RowSearch_states K ef_RowSearch_11 q40 d_RowSearch_init_39 ?_
  obtain ⟨o41, e41, h⟩ := wbo_e h
  refine j_eqq e41 ?_
  refine j_iload_n K 0 d_RowSearch_init_42 rfl rfl ?_
  refine e_new K inX8 tyX8 tyX8_ok cl_RowSearch_9 in_State ei_State rfl (by decide) fzok_8 (Nat.le_of_ble_eq_true rfl) (Nat.le_of_ble_eq_true rfl) d_RowSearch_init_43 (fun n42 f42 => ?_)
  have h := h n42 f42
  obtain ⟨κ42, e42, h⟩ := wlt_e h
  refine j_eqk e42 ?_
  refine j_dup K d_RowSearch_init_46 rfl ?_
  refine wcallJ_v K hN (c_State_init_wp l D θ N n42 κ42 _ h) ec_State_init ei_State ej_State_init (NX_RowSearch_28 hN) rfl eh_State_init (rmA_ok (by decide) (by decide)) rfl (st := [.ref n42, .int 4, .ref o41]) (Nat.le_of_ble_eq_true rfl) rfl d_RowSearch_init_47 ⟨Nat.le_of_ble_eq_true rfl, Nat.le_of_ble_eq_true rfl⟩ ?_
  intro κ43 h
  obtain ⟨q44, h⟩ := wck_e h
  obtain ⟨q45, h⟩ := wck_e h
  obtain ⟨q46, h⟩ := wck_e h
  obtain ⟨κ47, e47, h⟩ := wlt_e h
  refine e_ast_State K q44 q45 (inb_e q46) d_RowSearch_init_50 e47 ?_
  refine j_iinc (k := 0) (v := 5) (lv' := [(2, .int 5), (0, .ref this), (1, .ref a1)]) K d_RowSearch_init_51 rfl (by decide) (by decide) rfl ?_
  refine j_goto (tgt := 33) K d_RowSearch_init_54 (by decide) ?_
  refine j_iload_n K 0 d_RowSearch_init_33 rfl rfl ?_
  refine j_iconst (v := 4) K d_RowSearch_init_34 (by decide) ?_
  refine j_icmp_gt (tgt := 57) K d_RowSearch_init_35 (by decide) (fun q => ?_) (fun q => absurd q (by decide))
  exact wret_v K h hr hlk d_RowSearch_init_57
