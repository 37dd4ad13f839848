def w_ErrataRow_init (N : Nat) (this : Nat) (κ : Cz) (post : Cz → Prop) : Prop := wnw κ (fun n1 => wlt (nw n1 20 (400 : Int32).toNatClampNeg κ) (fun κ1 => wck (isK κ1 this 11) (wlt (sfr this 0 (some n1) κ1) (fun κ3 => wnw κ3 (fun n4 => wlt (nw n4 9 0 κ3) (fun κ4 => w_Tokens_init N n4 κ4 (fun κ5 => wck (isK κ5 this 11) (wlt (sfr this 2 (some n4) κ5) (fun κ7 => wnw κ7 (fun n8 => wlt (nw n8 1 0 κ7) (fun κ8 => wbo (fr κ8 this 2) (fun o9 => w_BookReader_init N n8 o9 κ8 (fun κ10 => wck (isK κ10 this 11) (wlt (sfr this 3 (some n8) κ10) (fun κ12 => wnw κ12 (fun n13 => wlt (nw n13 7 0 κ12) (fun κ13 => wbo (fr κ13 this 2) (fun o14 => w_RuleReader_init N n13 o14 κ13 (fun κ15 => wck (isK κ15 this 11) (wlt (sfr this 4 (some n13) κ15) (fun κ17 => wnw κ17 (fun n18 => wlt (nw n18 22 (6 : Int32).toNatClampNeg κ17) (fun κ18 => wlt (sfr this 5 (some n18) κ18) (fun κ19 => wnw κ19 (fun n20 => wlt (nw n20 10 0 κ19) (fun κ20 => w_World_init N n20 κ20 (fun κ21 => wck (isK κ21 this 11) (wlt (sfr this 7 (some n20) κ21) (fun κ23 => wnw κ23 (fun n24 => wlt (nw n24 24 (4 : Int32).toNatClampNeg κ23) (fun κ24 => wlt (sfr this 8 (some n24) κ24) (fun κ25 => wnw κ25 (fun n26 => wlt (nw n26 2 0 κ25) (fun κ26 => w_History_init N n26 κ26 (fun κ27 => wck (isK κ27 this 11) (wlt (sfr this 9 (some n26) κ27) (fun κ29 => wnw κ29 (fun n30 => wlt (nw n30 4 0 κ29) (fun κ30 => wbo (fr κ30 this 7) (fun o31 => wck (isK κ30 o31 10) (wbo (fr κ30 o31 0) (fun o33 => w_Press_init N n30 o33 κ30 (fun κ34 => wck (isK κ34 this 11) (wlt (sfr this 10 (some n30) κ34) (fun κ36 => wnw κ36 (fun n37 => wlt (nw n37 5 0 κ36) (fun κ37 => wbo (fr κ37 this 10) (fun o38 => w_RowSearch_init N n37 o38 κ37 (fun κ39 => wck (isK κ39 this 11) (wlt (sfr this 11 (some n37) κ39) (fun κ41 => wnw κ41 (fun n42 => wlt (nw n42 8 0 κ41) (fun κ42 => w_State_init N n42 κ42 (fun κ43 => wck (isK κ43 this 11) (wlt (sfr this 12 (some n42) κ43) (fun κ45 => wnw κ45 (fun n46 => wlt (nw n46 20 (3 : Int32).toNatClampNeg κ45) (fun κ46 => wlt (sfr this 13 (some n46) κ46) (fun κ47 => wnw κ47 (fun n48 => wlt (nw n48 20 (61 : Int32).toNatClampNeg κ47) (fun κ48 => wlt (sfr this 14 (some n48) κ48) (fun κ49 => wnw κ49 (fun n50 => wlt (nw n50 20 (128 : Int32).toNatClampNeg κ49) (fun κ50 => wlt (sfr this 15 (some n50) κ50) (fun κ51 => post κ51)))))))))))))))))))))))))))))))))))))))))))))))))))))))))))))))))
set_option maxHeartbeats 8000000 in
set_option maxRecDepth 100000 in
theorem c_ErrataRow_init_wp (l : Launch) (D : va_G) (θ : Tc) (N : Nat) (this : Nat) (κ : Cz) (post : Cz → Prop) (h : w_ErrataRow_init N this κ post) : CWv l D θ y_ErrataRow_init c_ErrataRow_init 1 none 4 72 2752 [.ref this] κ post := by
  intro sz
  refine e_met l [.ref this] (by decide +kernel) (Nat.le_of_ble_eq_true rfl) ?_
  intro p e s m args below meth c K hN hr hlk hnm hs
  generalize va_A (wE θ κ) sz = A at K ⊢
  have K : KE p s m args c c_ErrataRow_init 1 "ErrataRow" y_ErrataRow_init none D θ A := K
  show JE p l e (rmA 4 72 2752) s m args below meth c D θ A 1 0 0 (QWv below args s D θ A 72 2752 post) κ [(0, .ref this)] [] 0
  unfold w_ErrataRow_init at h
  refine j_aload_n K 0 d_ErrataRow_init_0 rfl rfl ?_
  refine e_objInit K eo_ErrataRow_1 eo_inst eo_code (by decide) (Nat.le_of_ble_eq_true rfl) d_ErrataRow_init_1 ?_
  refine j_aload_n K 0 d_ErrataRow_init_4 rfl rfl ?_
  refine j_sipush (v := 400) K d_ErrataRow_init_5 (by decide) ?_
  refine e_newai K ea_int 400 (by decide) (by decide) (by decide) (Nat.le_of_ble_eq_true rfl) (Nat.le_of_ble_eq_true rfl) d_ErrataRow_init_8 (fun n1 f1 => ?_)
  have h := h n1 f1
  obtain ⟨κ1, e1, h⟩ := wlt_e h
  refine j_eqk e1 ?_
  obtain ⟨q2, h⟩ := wck_e h
  obtain ⟨κ3, e3, h⟩ := wlt_e h
  refine e_putFr K inX11 tyX11 tyX11_ok nmX11 rfl (by decide) q2 0 (by decide) (by decide) rfl ef_ErrataRow_9 rfl hnm rfl (ty := tyX11 0) (by decide +kernel) rfl rfl d_ErrataRow_init_10 e3 ?_
  refine j_aload_n K 0 d_ErrataRow_init_13 rfl rfl ?_
  refine e_new K inX9 tyX9 tyX9_ok cl_ErrataRow_13 in_Tokens ei_Tokens rfl (by decide) fzok_9 (Nat.le_of_ble_eq_true rfl) (Nat.le_of_ble_eq_true rfl) d_ErrataRow_init_14 (fun n4 f4 => ?_)
  have h := h n4 f4
  obtain ⟨κ4, e4, h⟩ := wlt_e h
  refine j_eqk e4 ?_
  refine j_dup K d_ErrataRow_init_17 rfl ?_
  refine wcallJ_v K hN (c_Tokens_init_wp l D θ N n4 κ4 _ h) ec_Tokens_init ei_Tokens ej_Tokens_init (NX_ErrataRow_15 hN) rfl eh_Tokens_init (rmA_ok (by decide) (by decide)) rfl (st := [.ref n4, .ref this]) (Nat.le_of_ble_eq_true rfl) rfl d_ErrataRow_init_18 ⟨Nat.le_of_ble_eq_true rfl, Nat.le_of_ble_eq_true rfl⟩ ?_
  intro κ5 h
  obtain ⟨q6, h⟩ := wck_e h
  obtain ⟨κ7, e7, h⟩ := wlt_e h
  refine e_putFr K inX11 tyX11 tyX11_ok nmX11 rfl (by decide) q6 2 (by decide) (by decide) rfl ef_ErrataRow_16 rfl hnm rfl (ty := tyX11 2) (by decide +kernel) rfl rfl d_ErrataRow_init_21 e7 ?_
  refine j_aload_n K 0 d_ErrataRow_init_24 rfl rfl ?_
  refine e_new K inX1 tyX1 tyX1_ok cl_ErrataRow_20 in_BookReader ei_BookReader rfl (by decide) fzok_1 (Nat.le_of_ble_eq_true rfl) (Nat.le_of_ble_eq_true rfl) d_ErrataRow_init_25 (fun n8 f8 => ?_)
  have h := h n8 f8
  obtain ⟨κ8, e8, h⟩ := wlt_e h
  refine j_eqk e8 ?_
  refine j_dup K d_ErrataRow_init_28 rfl ?_
  refine j_aload_n K 0 d_ErrataRow_init_29 rfl rfl ?_
  refine eg_ErrataRow_tokens K ef_ErrataRow_16 (isK_nw e8 f8 (isK_sfr e7 q6)) d_ErrataRow_init_30 ?_
  obtain ⟨o9, e9, h⟩ := wbo_e h
  refine j_eqq e9 ?_
  refine wcallI_v K hN (c_BookReader_init_wp l D θ N n8 o9 κ8 _ h) ec_BookReader_init ei_BookReader ej_BookReader_init el_ErrataRow_22 rfl eh_BookReader_init (rmA_ok (by decide) (by decide)) rfl (st := [.ref n8, .ref this]) (Nat.le_of_ble_eq_true rfl) rfl d_ErrataRow_init_33 ⟨Nat.le_of_ble_eq_true rfl, Nat.le_of_ble_eq_true rfl⟩ ?_
  intro κ10 h
  obtain ⟨q11, h⟩ := wck_e h
  obtain ⟨κ12, e12, h⟩ := wlt_e h
  refine e_putFr K inX11 tyX11 tyX11_ok nmX11 rfl (by decide) q11 3 (by decide) (by decide) rfl ef_ErrataRow_25 rfl hnm rfl (ty := tyX11 3) (by decide +kernel) rfl rfl d_ErrataRow_init_36 e12 ?_
  refine j_aload_n K 0 d_ErrataRow_init_39 rfl rfl ?_
  refine e_new K inX7 tyX7 tyX7_ok cl_ErrataRow_29 in_RuleReader ei_RuleReader rfl (by decide) fzok_7 (Nat.le_of_ble_eq_true rfl) (Nat.le_of_ble_eq_true rfl) d_ErrataRow_init_40 (fun n13 f13 => ?_)
  have h := h n13 f13
  obtain ⟨κ13, e13, h⟩ := wlt_e h
  refine j_eqk e13 ?_
  refine j_dup K d_ErrataRow_init_43 rfl ?_
  refine j_aload_n K 0 d_ErrataRow_init_44 rfl rfl ?_
  refine eg_ErrataRow_tokens K ef_ErrataRow_16 (isK_nw e13 f13 (isK_sfr e12 q11)) d_ErrataRow_init_45 ?_
  obtain ⟨o14, e14, h⟩ := wbo_e h
  refine j_eqq e14 ?_
  refine wcallI_v K hN (c_RuleReader_init_wp l D θ N n13 o14 κ13 _ h) ec_RuleReader_init ei_RuleReader ej_RuleReader_init el_ErrataRow_31 rfl eh_RuleReader_init (rmA_ok (by decide) (by decide)) rfl (st := [.ref n13, .ref this]) (Nat.le_of_ble_eq_true rfl) rfl d_ErrataRow_init_48 ⟨Nat.le_of_ble_eq_true rfl, Nat.le_of_ble_eq_true rfl⟩ ?_
  intro κ15 h
  obtain ⟨q16, h⟩ := wck_e h
  obtain ⟨κ17, e17, h⟩ := wlt_e h
  refine e_putFr K inX11 tyX11 tyX11_ok nmX11 rfl (by decide) q16 4 (by decide) (by decide) rfl ef_ErrataRow_32 rfl hnm rfl (ty := tyX11 4) (by decide +kernel) rfl rfl d_ErrataRow_init_51 e17 ?_
  refine j_aload_n K 0 d_ErrataRow_init_54 rfl rfl ?_
  refine j_bipush (v := 6) K d_ErrataRow_init_55 (by decide) ?_
  refine e_newq_Rule K hN cl_ErrataRow_36 6 (by decide) (by decide) (by decide) (Nat.le_of_ble_eq_true rfl) (Nat.le_of_ble_eq_true rfl) d_ErrataRow_init_57 (fun n18 f18 => ?_)
  have h := h n18 f18
  obtain ⟨κ18, e18, h⟩ := wlt_e h
  refine j_eqk e18 ?_
  obtain ⟨κ19, e19, h⟩ := wlt_e h
  refine e_putFr K inX11 tyX11 tyX11_ok nmX11 rfl (by decide) (isK_nw e18 f18 (isK_sfr e17 q16)) 5 (by decide) (by decide) rfl ef_ErrataRow_38 rfl hnm rfl (ty := tyX11 5) (by decide +kernel) rfl rfl d_ErrataRow_init_60 e19 ?_
  refine j_aload_n K 0 d_ErrataRow_init_63 rfl rfl ?_
  refine e_new K inX10 tyX10 tyX10_ok cl_ErrataRow_42 in_World ei_World rfl (by decide) fzok_10 (Nat.le_of_ble_eq_true rfl) (Nat.le_of_ble_eq_true rfl) d_ErrataRow_init_64 (fun n20 f20 => ?_)
  have h := h n20 f20
  obtain ⟨κ20, e20, h⟩ := wlt_e h
  refine j_eqk e20 ?_
  refine j_dup K d_ErrataRow_init_67 rfl ?_
  refine wcallJ_v K hN (c_World_init_wp l D θ N n20 κ20 _ h) ec_World_init ei_World ej_World_init (NX_ErrataRow_44 hN) rfl eh_World_init (rmA_ok (by decide) (by decide)) rfl (st := [.ref n20, .ref this]) (Nat.le_of_ble_eq_true rfl) rfl d_ErrataRow_init_68 ⟨Nat.le_of_ble_eq_true rfl, Nat.le_of_ble_eq_true rfl⟩ ?_
  intro κ21 h
  obtain ⟨q22, h⟩ := wck_e h
  obtain ⟨κ23, e23, h⟩ := wlt_e h
  refine e_putFr K inX11 tyX11 tyX11_ok nmX11 rfl (by decide) q22 7 (by decide) (by decide) rfl ef_ErrataRow_45 rfl hnm rfl (ty := tyX11 7) (by decide +kernel) rfl rfl d_ErrataRow_init_71 e23 ?_
  refine j_aload_n K 0 d_ErrataRow_init_74 rfl rfl ?_
  refine j_iconst (v := 4) K d_ErrataRow_init_75 (by decide) ?_
  refine e_newq_World K hN cl_ErrataRow_42 4 (by decide) (by decide) (by decide) (Nat.le_of_ble_eq_true rfl) (Nat.le_of_ble_eq_true rfl) d_ErrataRow_init_76 (fun n24 f24 => ?_)
  have h := h n24 f24
  obtain ⟨κ24, e24, h⟩ := wlt_e h
  refine j_eqk e24 ?_
  obtain ⟨κ25, e25, h⟩ := wlt_e h
  refine e_putFr K inX11 tyX11 tyX11_ok nmX11 rfl (by decide) (isK_nw e24 f24 (isK_sfr e23 q22)) 8 (by decide) (by decide) rfl ef_ErrataRow_49 rfl hnm rfl (ty := tyX11 8) (by decide +kernel) rfl rfl d_ErrataRow_init_79 e25 ?_
  refine j_aload_n K 0 d_ErrataRow_init_82 rfl rfl ?_
  refine e_new K inX2 tyX2 tyX2_ok cl_ErrataRow_53 in_History ei_History rfl (by decide) fzok_2 (Nat.le_of_ble_eq_true rfl) (Nat.le_of_ble_eq_true rfl) d_ErrataRow_init_83 (fun n26 f26 => ?_)
  have h := h n26 f26
  obtain ⟨κ26, e26, h⟩ := wlt_e h
  refine j_eqk e26 ?_
  refine j_dup K d_ErrataRow_init_86 rfl ?_
  refine wcallJ_v K hN (c_History_init_wp l D θ N n26 κ26 _ h) ec_History_init ei_History ej_History_init (NX_ErrataRow_55 hN) rfl eh_History_init (rmA_ok (by decide) (by decide)) rfl (st := [.ref n26, .ref this]) (Nat.le_of_ble_eq_true rfl) rfl d_ErrataRow_init_87 ⟨Nat.le_of_ble_eq_true rfl, Nat.le_of_ble_eq_true rfl⟩ ?_
  intro κ27 h
  obtain ⟨q28, h⟩ := wck_e h
  obtain ⟨κ29, e29, h⟩ := wlt_e h
  refine e_putFr K inX11 tyX11 tyX11_ok nmX11 rfl (by decide) q28 9 (by decide) (by decide) rfl ef_ErrataRow_56 rfl hnm rfl (ty := tyX11 9) (by decide +kernel) rfl rfl d_ErrataRow_init_90 e29 ?_
  refine j_aload_n K 0 d_ErrataRow_init_93 rfl rfl ?_
  refine e_new K inX4 tyX4 tyX4_ok cl_ErrataRow_60 in_Press ei_Press rfl (by decide) fzok_4 (Nat.le_of_ble_eq_true rfl) (Nat.le_of_ble_eq_true rfl) d_ErrataRow_init_94 (fun n30 f30 => ?_)
  have h := h n30 f30
  obtain ⟨κ30, e30, h⟩ := wlt_e h
  refine j_eqk e30 ?_
  refine j_dup K d_ErrataRow_init_97 rfl ?_
  refine j_aload_n K 0 d_ErrataRow_init_98 rfl rfl ?_
  refine eg_ErrataRow_world K ef_ErrataRow_45 (isK_nw e30 f30 (isK_sfr e29 q28)) d_ErrataRow_init_99 ?_
  obtain ⟨o31, e31, h⟩ := wbo_e h
  refine j_eqq e31 ?_
  obtain ⟨q32, h⟩ := wck_e h
  refine eg_World_book K ef_ErrataRow_62 q32 d_ErrataRow_init_102 ?_
  obtain ⟨o33, e33, h⟩ := wbo_e h
  refine j_eqq e33 ?_
  refine wcallI_v K hN (c_Press_init_wp l D θ N n30 o33 κ30 _ h) ec_Press_init ei_Press ej_Press_init el_ErrataRow_66 rfl eh_Press_init (rmA_ok (by decide) (by decide)) rfl (st := [.ref n30, .ref this]) (Nat.le_of_ble_eq_true rfl) rfl d_ErrataRow_init_105 ⟨Nat.le_of_ble_eq_true rfl, Nat.le_of_ble_eq_true rfl⟩ ?_
  intro κ34 h
  obtain ⟨q35, h⟩ := wck_e h
  obtain ⟨κ36, e36, h⟩ := wlt_e h
  refine e_putFr K inX11 tyX11 tyX11_ok nmX11 rfl (by decide) q35 10 (by decide) (by decide) rfl ef_ErrataRow_69 rfl hnm rfl (ty := tyX11 10) (by decide +kernel) rfl rfl d_ErrataRow_init_108 e36 ?_
  refine j_aload_n K 0 d_ErrataRow_init_111 rfl rfl ?_
  refine e_new K inX5 tyX5 tyX5_ok cl_ErrataRow_73 in_RowSearch ei_RowSearch rfl (by decide) fzok_5 (Nat.le_of_ble_eq_true rfl) (Nat.le_of_ble_eq_true rfl) d_ErrataRow_init_112 (fun n37 f37 => ?_)
  have h := h n37 f37
  obtain ⟨κ37, e37, h⟩ := wlt_e h
  refine j_eqk e37 ?_
  refine j_dup K d_ErrataRow_init_115 rfl ?_
  refine j_aload_n K 0 d_ErrataRow_init_116 rfl rfl ?_
  refine eg_ErrataRow_press K ef_ErrataRow_69 (isK_nw e37 f37 (isK_sfr e36 q35)) d_ErrataRow_init_117 ?_
  obtain ⟨o38, e38, h⟩ := wbo_e h
  refine j_eqq e38 ?_
  refine wcallI_v K hN (c_RowSearch_init_wp l D θ N n37 o38 κ37 _ h) ec_RowSearch_init ei_RowSearch ej_RowSearch_init el_ErrataRow_75 rfl eh_RowSearch_init (rmA_ok (by decide) (by decide)) rfl (st := [.ref n37, .ref this]) (Nat.le_of_ble_eq_true rfl) rfl d_ErrataRow_init_120 ⟨Nat.le_of_ble_eq_true rfl, Nat.le_of_ble_eq_true rfl⟩ ?_
  intro κ39 h
  obtain ⟨q40, h⟩ := wck_e h
  obtain ⟨κ41, e41, h⟩ := wlt_e h
  refine e_putFr K inX11 tyX11 tyX11_ok nmX11 rfl (by decide) q40 11 (by decide) (by decide) rfl ef_ErrataRow_78 rfl hnm rfl (ty := tyX11 11) (by decide +kernel) rfl rfl d_ErrataRow_init_123 e41 ?_
  refine j_aload_n K 0 d_ErrataRow_init_126 rfl rfl ?_
  refine e_new K inX8 tyX8 tyX8_ok cl_ErrataRow_82 in_State ei_State rfl (by decide) fzok_8 (Nat.le_of_ble_eq_true rfl) (Nat.le_of_ble_eq_true rfl) d_ErrataRow_init_127 (fun n42 f42 => ?_)
  have h := h n42 f42
  obtain ⟨κ42, e42, h⟩ := wlt_e h
  refine j_eqk e42 ?_
  refine j_dup K d_ErrataRow_init_130 rfl ?_
  refine wcallJ_v K hN (c_State_init_wp l D θ N n42 κ42 _ h) ec_State_init ei_State ej_State_init (NX_ErrataRow_84 hN) rfl eh_State_init (rmA_ok (by decide) (by decide)) rfl (st := [.ref n42, .ref this]) (Nat.le_of_ble_eq_true rfl) rfl d_ErrataRow_init_131 ⟨Nat.le_of_ble_eq_true rfl, Nat.le_of_ble_eq_true rfl⟩ ?_
  intro κ43 h
  obtain ⟨q44, h⟩ := wck_e h
  obtain ⟨κ45, e45, h⟩ := wlt_e h
  refine e_putFr K inX11 tyX11 tyX11_ok nmX11 rfl (by decide) q44 12 (by decide) (by decide) rfl ef_ErrataRow_85 rfl hnm rfl (ty := tyX11 12) (by decide +kernel) rfl rfl d_ErrataRow_init_134 e45 ?_
  refine j_aload_n K 0 d_ErrataRow_init_137 rfl rfl ?_
  refine j_iconst (v := 3) K d_ErrataRow_init_138 (by decide) ?_
  refine e_newai K ea_int 3 (by decide) (by decide) (by decide) (Nat.le_of_ble_eq_true rfl) (Nat.le_of_ble_eq_true rfl) d_ErrataRow_init_139 (fun n46 f46 => ?_)
  have h := h n46 f46
  obtain ⟨κ46, e46, h⟩ := wlt_e h
  refine j_eqk e46 ?_
  obtain ⟨κ47, e47, h⟩ := wlt_e h
  refine e_putFr K inX11 tyX11 tyX11_ok nmX11 rfl (by decide) (isK_nw e46 f46 (isK_sfr e45 q44)) 13 (by decide) (by decide) rfl ef_ErrataRow_89 rfl hnm rfl (ty := tyX11 13) (by decide +kernel) rfl rfl d_ErrataRow_init_141 e47 ?_
  refine j_aload_n K 0 d_ErrataRow_init_144 rfl rfl ?_
  refine j_bipush (v := 61) K d_ErrataRow_init_145 (by decide) ?_
  refine e_newai K ea_int 61 (by decide) (by decide) (by decide) (Nat.le_of_ble_eq_true rfl) (Nat.le_of_ble_eq_true rfl) d_ErrataRow_init_147 (fun n48 f48 => ?_)
  have h := h n48 f48
  obtain ⟨κ48, e48, h⟩ := wlt_e h
  refine j_eqk e48 ?_
  obtain ⟨κ49, e49, h⟩ := wlt_e h
  refine e_putFr K inX11 tyX11 tyX11_ok nmX11 rfl (by decide) (isK_nw e48 f48 (isK_sfr e47 (isK_nw e46 f46 (isK_sfr e45 q44)))) 14 (by decide) (by decide) rfl ef_ErrataRow_92 rfl hnm rfl (ty := tyX11 14) (by decide +kernel) rfl rfl d_ErrataRow_init_149 e49 ?_
  refine j_aload_n K 0 d_ErrataRow_init_152 rfl rfl ?_
  refine j_sipush (v := 128) K d_ErrataRow_init_153 (by decide) ?_
  refine e_newai K ea_int 128 (by decide) (by decide) (by decide) (Nat.le_of_ble_eq_true rfl) (Nat.le_of_ble_eq_true rfl) d_ErrataRow_init_156 (fun n50 f50 => ?_)
  have h := h n50 f50
  obtain ⟨κ50, e50, h⟩ := wlt_e h
  refine j_eqk e50 ?_
  obtain ⟨κ51, e51, h⟩ := wlt_e h
  refine e_putFr K inX11 tyX11 tyX11_ok nmX11 rfl (by decide) (isK_nw e50 f50 (isK_sfr e49 (isK_nw e48 f48 (isK_sfr e47 (isK_nw e46 f46 (isK_sfr e45 q44)))))) 15 (by decide) (by decide) rfl ef_ErrataRow_95 rfl hnm rfl (ty := tyX11 15) (by decide +kernel) rfl rfl d_ErrataRow_init_158 e51 ?_
  exact wret_v K h hr hlk d_ErrataRow_init_161
def wb_ErrataRow_image_37 (N : Nat) (post : Int32 → Cz → Prop) (x0 : Nat) (x2 : Nat) (κ : Cz) : Prop := wck (isK κ x0 11) (wbo (fr κ x0 7) (fun o16 => wck (isK κ x2 10) (wbo (p_World_copyFrom N x2 o16 κ) (fun κ17 => wck (isK κ17 x0 11) (wbo (fr κ17 x0 7) (fun o20 => wck (isK κ17 o20 10) (wbo (fr κ17 o20 1) (fun o22 => wck (isK κ17 o22 8) (post (fi κ17 o22 5) κ17)))))))))
set_option maxHeartbeats 4000000 in
set_option maxRecDepth 100000 in
theorem wt_ErrataRow_image_37 {p : Program} {l : Launch} {e : Env} {s : State} {m : MethodId} {args : Array Value} {below : List Frame} {meth : Method} {c : Code} {D : va_G} {θ : Tc} {A : Nat → Prop} (K : KE p s m args c c_ErrataRow_image 3 "ErrataRow" y_ErrataRow_image (some .int) D θ A) (hN : NX s) (hr : meth.sig.returnType = (some .int)) (hlk : meth.locks = false) (hnm : meth.name = y_ErrataRow_image.name) (N : Nat) (post : Int32 → Cz → Prop) (x0 : Nat) (x2 : Nat) (κ : Cz) (h : wb_ErrataRow_image_37 N post x0 x2 κ) : JE p l e (rmA 4 17 153) s m args below meth c D θ A 3 17 153 (QWi below args s D θ A 17 153 post) κ [(0, .ref x0), (2, .ref x2)] [] 37 := by
  unfold wb_ErrataRow_image_37 at h
  refine j_aload_n K 1 d_ErrataRow_image_37 rfl rfl ?_
  refine j_aload_n K 0 d_ErrataRow_image_38 rfl rfl ?_
  obtain ⟨q15, h⟩ := wck_e h
  refine eg_ErrataRow_world K ef_ErrataRow_45 q15 d_ErrataRow_image_39 ?_
  obtain ⟨o16, e16, h⟩ := wbo_e h
  refine j_eqq e16 ?_
  obtain ⟨q18, h⟩ := wck_e h
  obtain ⟨κ17, e17, h⟩ := wbo_e h
  refine ecallV_v K hN (c_World_copyFrom_ok l D θ N x2 o16 κ _ e17) eG_ErrataRow_371 eh_World_copyFrom (by decide) (rmA_ok (by decide) (by decide)) rfl q18 (by decide) rfl (st := []) (Nat.le_of_ble_eq_true rfl) rfl d_ErrataRow_image_42 ⟨Nat.le_of_ble_eq_true rfl, Nat.le_of_ble_eq_true rfl⟩ ?_
  refine j_aload_n K 0 d_ErrataRow_image_45 rfl rfl ?_
  obtain ⟨q19, h⟩ := wck_e h
  refine eg_ErrataRow_world K ef_ErrataRow_45 q19 d_ErrataRow_image_46 ?_
  obtain ⟨o20, e20, h⟩ := wbo_e h
  refine j_eqq e20 ?_
  obtain ⟨q21, h⟩ := wck_e h
  refine eg_World_now K ef_ErrataRow_145 q21 d_ErrataRow_image_49 ?_
  obtain ⟨o22, e22, h⟩ := wbo_e h
  refine j_eqq e22 ?_
  obtain ⟨q23, h⟩ := wck_e h
  refine eg_State_edition K ef_ErrataRow_179 q23 d_ErrataRow_image_52 ?_
  exact wret_i K h hr hlk d_ErrataRow_image_55
def wb_ErrataRow_image_37_1 (N : Nat) (post : Int32 → Cz → Prop) (x0 : Nat) (x2 : Nat) (κ : Cz) : Prop := wck (isK κ x0 11) (wbo (fr κ x0 7) (fun o25 => wck (isK κ x2 10) (wbo (p_World_copyFrom N x2 o25 κ) (fun κ26 => wck (isK κ26 x0 11) (wbo (fr κ26 x0 7) (fun o29 => wck (isK κ26 o29 10) (wbo (fr κ26 o29 1) (fun o31 => wck (isK κ26 o31 8) (post (fi κ26 o31 5) κ26)))))))))
set_option maxHeartbeats 4000000 in
set_option maxRecDepth 100000 in
theorem wt_ErrataRow_image_37_1 {p : Program} {l : Launch} {e : Env} {s : State} {m : MethodId} {args : Array Value} {below : List Frame} {meth : Method} {c : Code} {D : va_G} {θ : Tc} {A : Nat → Prop} (K : KE p s m args c c_ErrataRow_image 3 "ErrataRow" y_ErrataRow_image (some .int) D θ A) (hN : NX s) (hr : meth.sig.returnType = (some .int)) (hlk : meth.locks = false) (hnm : meth.name = y_ErrataRow_image.name) (N : Nat) (post : Int32 → Cz → Prop) (x0 : Nat) (x2 : Nat) (κ : Cz) (h : wb_ErrataRow_image_37_1 N post x0 x2 κ) : JE p l e (rmA 4 17 153) s m args below meth c D θ A 3 0 0 (QWi below args s D θ A 17 153 post) κ [(0, .ref x0), (2, .ref x2)] [] 37 := by
  unfold wb_ErrataRow_image_37_1 at h
  refine j_aload_n K 1 d_ErrataRow_image_37 rfl rfl ?_
  refine j_aload_n K 0 d_ErrataRow_image_38 rfl rfl ?_
  obtain ⟨q24, h⟩ := wck_e h
  refine eg_ErrataRow_world K ef_ErrataRow_45 q24 d_ErrataRow_image_39 ?_
  obtain ⟨o25, e25, h⟩ := wbo_e h
  refine j_eqq e25 ?_
  obtain ⟨q27, h⟩ := wck_e h
  obtain ⟨κ26, e26, h⟩ := wbo_e h
  refine ecallV_v K hN (c_World_copyFrom_ok l D θ N x2 o25 κ _ e26) eG_ErrataRow_371 eh_World_copyFrom (by decide) (rmA_ok (by decide) (by decide)) rfl q27 (by decide) rfl (st := []) (Nat.le_of_ble_eq_true rfl) rfl d_ErrataRow_image_42 ⟨Nat.le_of_ble_eq_true rfl, Nat.le_of_ble_eq_true rfl⟩ ?_
  refine j_aload_n K 0 d_ErrataRow_image_45 rfl rfl ?_
  obtain ⟨q28, h⟩ := wck_e h
  refine eg_ErrataRow_world K ef_ErrataRow_45 q28 d_ErrataRow_image_46 ?_
  obtain ⟨o29, e29, h⟩ := wbo_e h
  refine j_eqq e29 ?_
  obtain ⟨q30, h⟩ := wck_e h
  refine eg_World_now K ef_ErrataRow_145 q30 d_ErrataRow_image_49 ?_
  obtain ⟨o31, e31, h⟩ := wbo_e h
  refine j_eqq e31 ?_
  obtain ⟨q32, h⟩ := wck_e h
  refine eg_State_edition K ef_ErrataRow_179 q32 d_ErrataRow_image_52 ?_
  refine e_widen (a := 17) (b := 153) (by decide) (by decide) ?_
  exact wret_i K h hr hlk d_ErrataRow_image_55
def w_ErrataRow_image (N : Nat) (this : Nat) (a1 : Int32) (κ : Cz) (post : Int32 → Cz → Prop) : Prop := wbd (p_ErrataRow_within N a1 0 3 κ) (fun r1 κ1 => wif (r1 = 0) (post (-1) κ1) (wck (isK κ1 this 11) (wbo (fr κ1 this 8) (fun o3 => wck (isK κ1 o3 24) (wck (inb a1 (ln κ1 o3)) (woc (aq κ1 o3 a1.toNatClampNeg) (wnw κ1 (fun n7 => wlt (nw n7 10 0 κ1) (fun κ7 => w_World_init N n7 κ7 (fun κ8 => wck (isK κ8 this 11) (wbo (fr κ8 this 8) (fun o10 => wck (isK κ8 o10 24) (wck (isK κ8 n7 10) (wck (inb a1 (ln κ8 o10)) (wlt (saq o10 (va_up (aq κ8 o10) a1.toNatClampNeg (some n7)) κ8) (fun κ14 => wb_ErrataRow_image_37 N post this n7 κ14)))))))))) (fun o6 => wb_ErrataRow_image_37_1 N post this o6 κ1)))))))
set_option maxHeartbeats 8000000 in
set_option maxRecDepth 100000 in
theorem c_ErrataRow_image_wp (l : Launch) (D : va_G) (θ : Tc) (N : Nat) (this : Nat) (a1 : Int32) (κ : Cz) (post : Int32 → Cz → Prop) (h : w_ErrataRow_image N this a1 κ post) : CWi l D θ y_ErrataRow_image c_ErrataRow_image 3 (some .int) 4 17 153 [.ref this, .int a1] κ post := by
  intro sz
  refine e_met l [.ref this, .int a1] (by decide +kernel) (Nat.le_of_ble_eq_true rfl) ?_
  intro p e s m args below meth c K hN hr hlk hnm hs
  generalize va_A (wE θ κ) sz = A at K ⊢
  have K : KE p s m args c c_ErrataRow_image 3 "ErrataRow" y_ErrataRow_image (some .int) D θ A := K
  show JE p l e (rmA 4 17 153) s m args below meth c D θ A 3 0 0 (QWi below args s D θ A 17 153 post) κ [(0, .ref this), (1, .int a1)] [] 0
  unfold w_ErrataRow_image at h
  refine j_iload_n K 1 d_ErrataRow_image_0 rfl rfl ?_
  refine j_iconst (v := 0) K d_ErrataRow_image_1 (by decide) ?_
  refine j_iconst (v := 3) K d_ErrataRow_image_2 (by decide) ?_
  obtain ⟨r1, κ1, e1, h⟩ := wbd_e h
  refine ecallS_i K hN (c_ErrataRow_within_ok l D θ N a1 0 3 κ _ e1) eG_ErrataRow_166 eh_ErrataRow_within (by decide) (rmA_ok (by decide) (by decide)) rfl (st := []) (Nat.le_of_ble_eq_true rfl) rfl d_ErrataRow_image_3 ⟨Nat.le_of_ble_eq_true rfl, Nat.le_of_ble_eq_true rfl⟩ ?_
  refine j_if_ne (tgt := 11) K d_ErrataRow_image_6 (by decide) (fun q => ?_) (fun q => ?_)
  · have h := wif_f h q
    refine j_aload_n K 0 d_ErrataRow_image_11 rfl rfl ?_
    obtain ⟨q2, h⟩ := wck_e h
    refine eg_ErrataRow_images K ef_ErrataRow_49 q2 d_ErrataRow_image_12 ?_
    obtain ⟨o3, e3, h⟩ := wbo_e h
    refine j_eqq e3 ?_
    refine j_iload_n K 1 d_ErrataRow_image_15 rfl rfl ?_
    obtain ⟨q4, h⟩ := wck_e h
    obtain ⟨q5, h⟩ := wck_e h
    refine e_ald_World K q4 (inb_e q5) d_ErrataRow_image_16 ?_
    rcases woc_e h with ⟨e6, h⟩ | ⟨o6, e6, h⟩
    · refine j_eqn e6 ?_
      refine e_astore_nN (lv' := [(2, .null), (0, .ref this), (1, .int a1)]) K d_ErrataRow_image_17 rfl (by decide) rfl ?_
      refine e_aload_nN K 0 d_ErrataRow_image_18 rfl rfl ?_
      refine e_ifnonnullN K d_ErrataRow_image_19 ?_
      refine e_new K inX10 tyX10 tyX10_ok cl_ErrataRow_42 in_World ei_World rfl (by decide) fzok_10 (Nat.le_of_ble_eq_true rfl) (Nat.le_of_ble_eq_true rfl) d_ErrataRow_image_22 (fun n7 f7 => ?_)
      have h := h n7 f7
      obtain ⟨κ7, e7, h⟩ := wlt_e h
      refine j_eqk e7 ?_
      refine j_dup K d_ErrataRow_image_25 rfl ?_
      refine wcallJ_v K hN (c_World_init_wp l D θ N n7 κ7 _ h) ec_World_init ei_World ej_World_init (NX_ErrataRow_44 hN) rfl eh_World_init (rmA_ok (by decide) (by decide)) rfl (st := [.ref n7]) (Nat.le_of_ble_eq_true rfl) rfl d_ErrataRow_image_26 ⟨Nat.le_of_ble_eq_true rfl, Nat.le_of_ble_eq_true rfl⟩ ?_
      intro κ8 h
      refine j_astore_n (lv' := [(2, .ref n7), (0, .ref this), (1, .int a1)]) K d_ErrataRow_image_29 rfl (by decide) rfl ?_
      refine j_aload_n K 1 d_ErrataRow_image_30 rfl rfl ?_
      obtain ⟨q9, h⟩ := wck_e h
      refine eg_ErrataRow_images K ef_ErrataRow_49 q9 d_ErrataRow_image_31 ?_
      obtain ⟨o10, e10, h⟩ := wbo_e h
      refine j_eqq e10 ?_
      refine j_iload_n K 2 d_ErrataRow_image_34 rfl rfl ?_
      refine j_aload_n K 0 d_ErrataRow_image_35 rfl rfl ?_
      obtain ⟨q11, h⟩ := wck_e h
      obtain ⟨q12, h⟩ := wck_e h
      obtain ⟨q13, h⟩ := wck_e h
      obtain ⟨κ14, e14, h⟩ := wlt_e h
      refine e_ast_World K q11 q12 (inb_e q13) d_ErrataRow_image_36 e14 ?_
      refine j_sub [1, 0] rfl ?_
      exact wt_ErrataRow_image_37 K hN hr hlk hnm N post this n7 κ14 h
    · refine j_eqq e6 ?_
      refine j_astore_n (lv' := [(2, .ref o6), (0, .ref this), (1, .int a1)]) K d_ErrataRow_image_17 rfl (by decide) rfl ?_
      refine j_aload_n K 0 d_ErrataRow_image_18 rfl rfl ?_
      refine e_ifnonnull (tgt := 37) K d_ErrataRow_image_19 (by decide) ?_
      refine j_sub [1, 0] rfl ?_
      exact wt_ErrataRow_image_37_1 K hN hr hlk hnm N post this o6 κ1 h
  · have h := wif_t h q
    refine j_iconst (v := (-1)) K d_ErrataRow_image_9 (by decide) ?_
    refine e_widen (a := 17) (b := 153) (by decide) (by decide) ?_
    exact wret_i K h hr hlk d_ErrataRow_image_10
def w_ErrataRow_edition (N : Nat) (this : Nat) (κ : Cz) (post : Int32 → Cz → Prop) : Prop := wck (isK κ this 11) (wbo (fr κ this 7) (fun o2 => wck (isK κ o2 10) (wbo (fr κ o2 0) (fun o4 => wck (isK κ o4 0) (wif ((fi κ o4 0) = 0) (post (-1) κ) (wbo (fr κ this 7) (fun o6 => wck (isK κ o6 10) (wbo (fr κ o6 1) (fun o8 => wck (isK κ o8 8) (wif ((fi κ o8 5) < 999) (wbo (fr κ this 9) (fun o10 => wbo (fr κ this 7) (fun o11 => wck (isK κ o11 10) (wbo (fr κ o11 1) (fun o13 => wck (isK κ o10 2) (w_History_keep N o10 o13 κ (fun κ14 => wck (isK κ14 this 11) (wbo (fr κ14 this 7) (fun o17 => wck (isK κ14 o17 10) (wbo (p_ErrataRow_readyPress N this (fi κ14 o17 3) κ14) (fun κ19 => wck (isK κ19 this 11) (wbo (fr κ19 this 10) (fun o21 => wbo (fr κ19 this 7) (fun o22 => wck (isK κ19 o22 10) (wbo (fr κ19 o22 1) (fun o24 => wck (isK κ19 o21 4) (wbd (p_Press_printEdition N o21 o24 κ19) (fun r25 κ25 => wif (r25 = (-1)) (post (-2) κ25) (post r25 κ25))))))))))))))))))) (post (-1) κ)))))))))))
set_option maxHeartbeats 8000000 in
set_option maxRecDepth 100000 in
theorem c_ErrataRow_edition_wp (l : Launch) (D : va_G) (θ : Tc) (N : Nat) (this : Nat) (κ : Cz) (post : Int32 → Cz → Prop) (h : w_ErrataRow_edition N this κ post) : CWi l D θ y_ErrataRow_edition c_ErrataRow_edition 2 (some .int) 6 4 36 [.ref this] κ post := by
  intro sz
  refine e_met l [.ref this] (by decide +kernel) (Nat.le_of_ble_eq_true rfl) ?_
  intro p e s m args below meth c K hN hr hlk hnm hs
  generalize va_A (wE θ κ) sz = A at K ⊢
  have K : KE p s m args c c_ErrataRow_edition 2 "ErrataRow" y_ErrataRow_edition (some .int) D θ A := K
  show JE p l e (rmA 6 4 36) s m args below meth c D θ A 2 0 0 (QWi below args s D θ A 4 36 post) κ [(0, .ref this)] [] 0
  unfold w_ErrataRow_edition at h
  refine j_aload_n K 0 d_ErrataRow_edition_0 rfl rfl ?_
  obtain ⟨q1, h⟩ := wck_e h
  refine eg_ErrataRow_world K ef_ErrataRow_45 q1 d_ErrataRow_edition_1 ?_
  obtain ⟨o2, e2, h⟩ := wbo_e h
  refine j_eqq e2 ?_
  obtain ⟨q3, h⟩ := wck_e h
  refine eg_World_book K ef_ErrataRow_62 q3 d_ErrataRow_edition_4 ?_
  obtain ⟨o4, e4, h⟩ := wbo_e h
  refine j_eqq e4 ?_
  obtain ⟨q5, h⟩ := wck_e h
  refine eg_Book_told K ef_ErrataRow_160 q5 d_ErrataRow_edition_7 ?_
  refine j_if_eq (tgt := 29) K d_ErrataRow_edition_10 (by decide) (fun q => ?_) (fun q => ?_)
  · have h := wif_t h q
    refine j_iconst (v := (-1)) K d_ErrataRow_edition_29 (by decide) ?_
    refine e_widen (a := 4) (b := 36) (by decide) (by decide) ?_
    exact wret_i K h hr hlk d_ErrataRow_edition_30
  · have h := wif_f h q
    refine j_aload_n K 0 d_ErrataRow_edition_13 rfl rfl ?_
    refine eg_ErrataRow_world K ef_ErrataRow_45 q1 d_ErrataRow_edition_14 ?_
    obtain ⟨o6, e6, h⟩ := wbo_e h
    refine j_eqq e6 ?_
    obtain ⟨q7, h⟩ := wck_e h
    refine eg_World_now K ef_ErrataRow_145 q7 d_ErrataRow_edition_17 ?_
    obtain ⟨o8, e8, h⟩ := wbo_e h
    refine j_eqq e8 ?_
    obtain ⟨q9, h⟩ := wck_e h
    refine eg_State_edition K ef_ErrataRow_179 q9 d_ErrataRow_edition_20 ?_
    refine j_sipush (v := 999) K d_ErrataRow_edition_23 (by decide) ?_
    refine j_icmp_lt (tgt := 31) K d_ErrataRow_edition_26 (by decide) (fun q => ?_) (fun q => ?_)
    · have h := wif_t h q
      refine j_aload_n K 0 d_ErrataRow_edition_31 rfl rfl ?_
      refine eg_ErrataRow_history K ef_ErrataRow_56 q1 d_ErrataRow_edition_32 ?_
      obtain ⟨o10, e10, h⟩ := wbo_e h
      refine j_eqq e10 ?_
      refine j_aload_n K 0 d_ErrataRow_edition_35 rfl rfl ?_
      refine eg_ErrataRow_world K ef_ErrataRow_45 q1 d_ErrataRow_edition_36 ?_
      obtain ⟨o11, e11, h⟩ := wbo_e h
      refine j_eqq e11 ?_
      obtain ⟨q12, h⟩ := wck_e h
      refine eg_World_now K ef_ErrataRow_145 q12 d_ErrataRow_edition_39 ?_
      obtain ⟨o13, e13, h⟩ := wbo_e h
      refine j_eqq e13 ?_
      obtain ⟨q15, h⟩ := wck_e h
      refine wcallV_v K hN (c_History_keep_wp l D θ N o10 o13 κ _ h) eG_ErrataRow_208 eh_History_keep (rmA_ok (by decide) (by decide)) rfl q15 (by decide) rfl (st := []) (Nat.le_of_ble_eq_true rfl) rfl d_ErrataRow_edition_42 ⟨Nat.le_of_ble_eq_true rfl, Nat.le_of_ble_eq_true rfl⟩ ?_
      intro κ14 h
      refine j_aload_n K 0 d_ErrataRow_edition_45 rfl rfl ?_
      refine j_aload_n K 0 d_ErrataRow_edition_46 rfl rfl ?_
      obtain ⟨q16, h⟩ := wck_e h
      refine eg_ErrataRow_world K ef_ErrataRow_45 q16 d_ErrataRow_edition_47 ?_
      obtain ⟨o17, e17, h⟩ := wbo_e h
      refine j_eqq e17 ?_
      obtain ⟨q18, h⟩ := wck_e h
      refine eg_World_inForce K ef_ErrataRow_138 q18 d_ErrataRow_edition_50 ?_
      obtain ⟨κ19, e19, h⟩ := wbo_e h
      refine ecallV_v K hN (c_ErrataRow_readyPress_ok l D θ N this (fi κ14 o17 3) κ14 _ e19) eG_ErrataRow_212 eh_ErrataRow_readyPress (by decide) (rmA_ok (by decide) (by decide)) rfl q16 (by decide) rfl (st := []) (Nat.le_of_ble_eq_true rfl) rfl d_ErrataRow_edition_53 ⟨Nat.le_of_ble_eq_true rfl, Nat.le_of_ble_eq_true rfl⟩ ?_
      refine j_aload_n K 0 d_ErrataRow_edition_56 rfl rfl ?_
      obtain ⟨q20, h⟩ := wck_e h
      refine eg_ErrataRow_press K ef_ErrataRow_69 q20 d_ErrataRow_edition_57 ?_
      obtain ⟨o21, e21, h⟩ := wbo_e h
      refine j_eqq e21 ?_
      refine j_aload_n K 0 d_ErrataRow_edition_60 rfl rfl ?_
      refine eg_ErrataRow_world K ef_ErrataRow_45 q20 d_ErrataRow_edition_61 ?_
      obtain ⟨o22, e22, h⟩ := wbo_e h
      refine j_eqq e22 ?_
      obtain ⟨q23, h⟩ := wck_e h
      refine eg_World_now K ef_ErrataRow_145 q23 d_ErrataRow_edition_64 ?_
      obtain ⟨o24, e24, h⟩ := wbo_e h
      refine j_eqq e24 ?_
      obtain ⟨q26, h⟩ := wck_e h
      obtain ⟨r25, κ25, e25, h⟩ := wbd_e h
      refine ecallV_i K hN (c_Press_printEdition_ok l D θ N o21 o24 κ19 _ e25) eG_ErrataRow_215 eh_Press_printEdition (by decide) (rmA_ok (by decide) (by decide)) rfl q26 (by decide) rfl (st := []) (Nat.le_of_ble_eq_true rfl) rfl d_ErrataRow_edition_67 ⟨Nat.le_of_ble_eq_true rfl, Nat.le_of_ble_eq_true rfl⟩ ?_
      refine j_istore_n (lv' := [(1, .int r25), (0, .ref this)]) K d_ErrataRow_edition_70 rfl (by decide) rfl ?_
      refine j_iload_n K 0 d_ErrataRow_edition_71 rfl rfl ?_
      refine j_iconst (v := (-1)) K d_ErrataRow_edition_72 (by decide) ?_
      refine j_icmp_ne (tgt := 81) K d_ErrataRow_edition_73 (by decide) (fun q => ?_) (fun q => ?_)
      · have h := wif_f h q
        refine j_iload_n K 0 d_ErrataRow_edition_81 rfl rfl ?_
        exact wret_i K h hr hlk d_ErrataRow_edition_82
      · have h := wif_t h q
        refine j_bipush (v := (-2)) K d_ErrataRow_edition_76 (by decide) ?_
        refine j_goto (tgt := 82) K d_ErrataRow_edition_78 (by decide) ?_
        exact wret_i K h hr hlk d_ErrataRow_edition_82
    · have h := wif_f h q
      refine j_iconst (v := (-1)) K d_ErrataRow_edition_29 (by decide) ?_
      refine e_widen (a := 4) (b := 36) (by decide) (by decide) ?_
      exact wret_i K h hr hlk d_ErrataRow_edition_30
def w_ErrataRow_set (N : Nat) (this : Nat) (a1 : Int32) (a2 : Int32) (κ : Cz) (post : Int32 → Cz → Prop) : Prop := wck (isK κ this 11) (wbd (p_ErrataRow_isLetter N this a1 κ) (fun r1 κ1 => wif (r1 = 0) (post (-1) κ1) (wbd (p_ErrataRow_isPut N a2 κ1) (fun r3 κ3 => wif (r3 = 0) (post (-1) κ3) (wck (isK κ3 this 11) (wbo (fr κ3 this 7) (fun o5 => wck (isK κ3 o5 10) (wbo (fr κ3 o5 1) (fun o7 => wck (isK κ3 o7 8) (wbo (fr κ3 o7 0) (fun o9 => wck (isK κ3 o9 20) (wck (inb a1 (ln κ3 o9)) (wif ((ai κ3 o9 a1.toNatClampNeg) = a2) (post (-1) κ3) (wbo (fr κ3 this 9) (fun o12 => wbo (fr κ3 this 7) (fun o13 => wck (isK κ3 o13 10) (wbo (fr κ3 o13 1) (fun o15 => wck (isK κ3 o12 2) (w_History_keep N o12 o15 κ3 (fun κ16 => wck (isK κ16 this 11) (wbo (fr κ16 this 7) (fun o19 => wck (isK κ16 o19 10) (wbo (fr κ16 o19 1) (fun o21 => wck (isK κ16 o21 8) (wbo (fr κ16 o21 0) (fun o23 => wck (isK κ16 o23 20) (wck (inb a1 (ln κ16 o23)) (wlt (ai κ16 o23 a1.toNatClampNeg) (fun v26 => wbo (fr κ16 this 7) (fun o27 => wck (isK κ16 o27 10) (wbo (fr κ16 o27 1) (fun o29 => wck (isK κ16 o29 8) (wbo (fr κ16 o29 0) (fun o31 => wck (isK κ16 o31 20) (wck (inb a1 (ln κ16 o31)) (wlt (sai o31 (upd (ai κ16 o31) a1.toNatClampNeg a2) κ16) (fun κ34 => post v26 κ34)))))))))))))))))))))))))))))))))))))
set_option maxHeartbeats 8000000 in
set_option maxRecDepth 100000 in
theorem c_ErrataRow_set_wp (l : Launch) (D : va_G) (θ : Tc) (N : Nat) (this : Nat) (a1 : Int32) (a2 : Int32) (κ : Cz) (post : Int32 → Cz → Prop) (h : w_ErrataRow_set N this a1 a2 κ post) : CWi l D θ y_ErrataRow_set c_ErrataRow_set 4 (some .int) 3 4 36 [.ref this, .int a1, .int a2] κ post := by
  intro sz
  refine e_met l [.ref this, .int a1, .int a2] (by decide +kernel) (Nat.le_of_ble_eq_true rfl) ?_
  intro p e s m args below meth c K hN hr hlk hnm hs
  generalize va_A (wE θ κ) sz = A at K ⊢
  have K : KE p s m args c c_ErrataRow_set 4 "ErrataRow" y_ErrataRow_set (some .int) D θ A := K
  show JE p l e (rmA 3 4 36) s m args below meth c D θ A 4 0 0 (QWi below args s D θ A 4 36 post) κ [(0, .ref this), (1, .int a1), (2, .int a2)] [] 0
  unfold w_ErrataRow_set at h
  refine j_aload_n K 0 d_ErrataRow_set_0 rfl rfl ?_
  refine j_iload_n K 1 d_ErrataRow_set_1 rfl rfl ?_
  obtain ⟨q2, h⟩ := wck_e h
  obtain ⟨r1, κ1, e1, h⟩ := wbd_e h
  refine ecallV_i K hN (c_ErrataRow_isLetter_ok l D θ N this a1 κ _ e1) eG_ErrataRow_141 eh_ErrataRow_isLetter (by decide) (rmA_ok (by decide) (by decide)) rfl q2 (by decide) rfl (st := []) (Nat.le_of_ble_eq_true rfl) rfl d_ErrataRow_set_2 ⟨Nat.le_of_ble_eq_true rfl, Nat.le_of_ble_eq_true rfl⟩ ?_
  refine j_if_eq (tgt := 31) K d_ErrataRow_set_5 (by decide) (fun q => ?_) (fun q => ?_)
  · have h := wif_t h q
    refine j_iconst (v := (-1)) K d_ErrataRow_set_31 (by decide) ?_
    refine e_widen (a := 4) (b := 36) (by decide) (by decide) ?_
    exact wret_i K h hr hlk d_ErrataRow_set_32
  · have h := wif_f h q
    refine j_iload_n K 2 d_ErrataRow_set_8 rfl rfl ?_
    obtain ⟨r3, κ3, e3, h⟩ := wbd_e h
    refine ecallS_i K hN (c_ErrataRow_isPut_ok l D θ N a2 κ1 _ e3) eG_ErrataRow_218 eh_ErrataRow_isPut (by decide) (rmA_ok (by decide) (by decide)) rfl (st := []) (Nat.le_of_ble_eq_true rfl) rfl d_ErrataRow_set_9 ⟨Nat.le_of_ble_eq_true rfl, Nat.le_of_ble_eq_true rfl⟩ ?_
    refine j_if_eq (tgt := 31) K d_ErrataRow_set_12 (by decide) (fun q => ?_) (fun q => ?_)
    · have h := wif_t h q
      refine j_iconst (v := (-1)) K d_ErrataRow_set_31 (by decide) ?_
      refine e_widen (a := 4) (b := 36) (by decide) (by decide) ?_
      exact wret_i K h hr hlk d_ErrataRow_set_32
    · have h := wif_f h q
      refine j_aload_n K 0 d_ErrataRow_set_15 rfl rfl ?_
      obtain ⟨q4, h⟩ := wck_e h
      refine eg_ErrataRow_world K ef_ErrataRow_45 q4 d_ErrataRow_set_16 ?_
      obtain ⟨o5, e5, h⟩ := wbo_e h
      refine j_eqq e5 ?_
      obtain ⟨q6, h⟩ := wck_e h
      refine eg_World_now K ef_ErrataRow_145 q6 d_ErrataRow_set_19 ?_
      obtain ⟨o7, e7, h⟩ := wbo_e h
      refine j_eqq e7 ?_
      obtain ⟨q8, h⟩ := wck_e h
      refine eg_State_put K ef_ErrataRow_148 q8 d_ErrataRow_set_22 ?_
      obtain ⟨o9, e9, h⟩ := wbo_e h
      refine j_eqq e9 ?_
      refine j_iload_n K 1 d_ErrataRow_set_25 rfl rfl ?_
      obtain ⟨q10, h⟩ := wck_e h
      obtain ⟨q11, h⟩ := wck_e h
      refine e_iald K q10 (inb_e q11) d_ErrataRow_set_26 ?_
      refine j_iload_n K 2 d_ErrataRow_set_27 rfl rfl ?_
      refine j_icmp_ne (tgt := 33) K d_ErrataRow_set_28 (by decide) (fun q => ?_) (fun q => ?_)
      · have h := wif_f h q
        refine j_aload_n K 0 d_ErrataRow_set_33 rfl rfl ?_
        refine eg_ErrataRow_history K ef_ErrataRow_56 q4 d_ErrataRow_set_34 ?_
        obtain ⟨o12, e12, h⟩ := wbo_e h
        refine j_eqq e12 ?_
        refine j_aload_n K 0 d_ErrataRow_set_37 rfl rfl ?_
        refine eg_ErrataRow_world K ef_ErrataRow_45 q4 d_ErrataRow_set_38 ?_
        obtain ⟨o13, e13, h⟩ := wbo_e h
        refine j_eqq e13 ?_
        obtain ⟨q14, h⟩ := wck_e h
        refine eg_World_now K ef_ErrataRow_145 q14 d_ErrataRow_set_41 ?_
        obtain ⟨o15, e15, h⟩ := wbo_e h
        refine j_eqq e15 ?_
        obtain ⟨q17, h⟩ := wck_e h
        refine wcallV_v K hN (c_History_keep_wp l D θ N o12 o15 κ3 _ h) eG_ErrataRow_208 eh_History_keep (rmA_ok (by decide) (by decide)) rfl q17 (by decide) rfl (st := []) (Nat.le_of_ble_eq_true rfl) rfl d_ErrataRow_set_44 ⟨Nat.le_of_ble_eq_true rfl, Nat.le_of_ble_eq_true rfl⟩ ?_
        intro κ16 h
        refine j_aload_n K 0 d_ErrataRow_set_47 rfl rfl ?_
        obtain ⟨q18, h⟩ := wck_e h
        refine eg_ErrataRow_world K ef_ErrataRow_45 q18 d_ErrataRow_set_48 ?_
        obtain ⟨o19, e19, h⟩ := wbo_e h
        refine j_eqq e19 ?_
        obtain ⟨q20, h⟩ := wck_e h
        refine eg_World_now K ef_ErrataRow_145 q20 d_ErrataRow_set_51 ?_
        obtain ⟨o21, e21, h⟩ := wbo_e h
        refine j_eqq e21 ?_
        obtain ⟨q22, h⟩ := wck_e h
        refine eg_State_put K ef_ErrataRow_148 q22 d_ErrataRow_set_54 ?_
        obtain ⟨o23, e23, h⟩ := wbo_e h
        refine j_eqq e23 ?_
        refine j_iload_n K 1 d_ErrataRow_set_57 rfl rfl ?_
        obtain ⟨q24, h⟩ := wck_e h
        obtain ⟨q25, h⟩ := wck_e h
        refine e_iald K q24 (inb_e q25) d_ErrataRow_set_58 ?_
        obtain ⟨v26, e26, h⟩ := wlt_e h
        refine j_eqi e26 ?_
        refine j_istore_n (lv' := [(3, .int v26), (0, .ref this), (1, .int a1), (2, .int a2)]) K d_ErrataRow_set_59 rfl (by decide) rfl ?_
        refine j_aload_n K 1 d_ErrataRow_set_60 rfl rfl ?_
        refine eg_ErrataRow_world K ef_ErrataRow_45 q18 d_ErrataRow_set_61 ?_
        obtain ⟨o27, e27, h⟩ := wbo_e h
        refine j_eqq e27 ?_
        obtain ⟨q28, h⟩ := wck_e h
        refine eg_World_now K ef_ErrataRow_145 q28 d_ErrataRow_set_64 ?_
        obtain ⟨o29, e29, h⟩ := wbo_e h
        refine j_eqq e29 ?_
        obtain ⟨q30, h⟩ := wck_e h
        refine eg_State_put K ef_ErrataRow_148 q30 d_ErrataRow_set_67 ?_
        obtain ⟨o31, e31, h⟩ := wbo_e h
        refine j_eqq e31 ?_
        refine j_iload_n K 2 d_ErrataRow_set_70 rfl rfl ?_
        refine j_iload_n K 3 d_ErrataRow_set_71 rfl rfl ?_
        obtain ⟨q32, h⟩ := wck_e h
        obtain ⟨q33, h⟩ := wck_e h
        obtain ⟨κ34, e34, h⟩ := wlt_e h
        refine e_iast K q32 (inb_e q33) d_ErrataRow_set_72 e34 ?_
        refine j_iload_n K 0 d_ErrataRow_set_73 rfl rfl ?_
        exact wret_i K h hr hlk d_ErrataRow_set_74
      · have h := wif_t h q
        refine j_iconst (v := (-1)) K d_ErrataRow_set_31 (by decide) ?_
        refine e_widen (a := 4) (b := 36) (by decide) (by decide) ?_
        exact wret_i K h hr hlk d_ErrataRow_set_32
def w_ErrataRow_mend (N : Nat) (this : Nat) (a1 : Int32) (κ : Cz) (post : Int32 → Cz → Prop) : Prop := wck (isK κ this 11) (wbd (p_ErrataRow_isLetter N this a1 κ) (fun r1 κ1 => wif (r1 = 0) (post (-1) κ1) (wck (isK κ1 this 11) (wbo (fr κ1 this 10) (fun o4 => wbo (fr κ1 this 7) (fun o5 => wck (isK κ1 o5 10) (wbo (fr κ1 o5 1) (fun o7 => wck (isK κ1 o4 4) (wbd (p_Press_looseOf N o4 o7 κ1) (fun r8 κ8 => wbd (p_ErrataRow_hasBit N r8 a1 κ8) (fun r10 κ10 => wif (r10 = 0) (post (-1) κ10) (wck (isK κ10 this 11) (wbo (fr κ10 this 9) (fun o12 => wbo (fr κ10 this 7) (fun o13 => wck (isK κ10 o13 10) (wbo (fr κ10 o13 1) (fun o15 => wck (isK κ10 o12 2) (w_History_keep N o12 o15 κ10 (fun κ16 => wck (isK κ16 this 11) (wbo (fr κ16 this 7) (fun o19 => wck (isK κ16 o19 10) (wbo (fr κ16 o19 1) (fun o21 => wck (isK κ16 o21 8) (wbo (fr κ16 o21 0) (fun o23 => wbo (fr κ16 this 7) (fun o24 => wck (isK κ16 o24 10) (wbo (fr κ16 o24 0) (fun o26 => wck (isK κ16 o26 0) (wbo (fr κ16 o26 4) (fun o28 => wck (isK κ16 o28 20) (wck (inb a1 (ln κ16 o28)) (wlt (ai κ16 o28 a1.toNatClampNeg) (fun v31 => wck (isK κ16 o23 20) (wck (inb a1 (ln κ16 o23)) (wlt (sai o23 (upd (ai κ16 o23) a1.toNatClampNeg v31) κ16) (fun κ34 => wbo (fr κ34 this 10) (fun o35 => wbo (fr κ34 this 7) (fun o36 => wck (isK κ34 o36 10) (wbo (fr κ34 o36 1) (fun o38 => wck (isK κ34 o35 4) (wbd (p_Press_howManyWrong N o35 o38 κ34) (fun r39 κ39 => post r39 κ39))))))))))))))))))))))))))))))))))))))))))
set_option maxHeartbeats 8000000 in
set_option maxRecDepth 100000 in
theorem c_ErrataRow_mend_wp (l : Launch) (D : va_G) (θ : Tc) (N : Nat) (this : Nat) (a1 : Int32) (κ : Cz) (post : Int32 → Cz → Prop) (h : w_ErrataRow_mend N this a1 κ post) : CWi l D θ y_ErrataRow_mend c_ErrataRow_mend 2 (some .int) 4 4 36 [.ref this, .int a1] κ post := by
  intro sz
  refine e_met l [.ref this, .int a1] (by decide +kernel) (Nat.le_of_ble_eq_true rfl) ?_
  intro p e s m args below meth c K hN hr hlk hnm hs
  generalize va_A (wE θ κ) sz = A at K ⊢
  have K : KE p s m args c c_ErrataRow_mend 2 "ErrataRow" y_ErrataRow_mend (some .int) D θ A := K
  show JE p l e (rmA 4 4 36) s m args below meth c D θ A 2 0 0 (QWi below args s D θ A 4 36 post) κ [(0, .ref this), (1, .int a1)] [] 0
  unfold w_ErrataRow_mend at h
  refine j_aload_n K 0 d_ErrataRow_mend_0 rfl rfl ?_
  refine j_iload_n K 1 d_ErrataRow_mend_1 rfl rfl ?_
  obtain ⟨q2, h⟩ := wck_e h
  obtain ⟨r1, κ1, e1, h⟩ := wbd_e h
  refine ecallV_i K hN (c_ErrataRow_isLetter_ok l D θ N this a1 κ _ e1) eG_ErrataRow_141 eh_ErrataRow_isLetter (by decide) (rmA_ok (by decide) (by decide)) rfl q2 (by decide) rfl (st := []) (Nat.le_of_ble_eq_true rfl) rfl d_ErrataRow_mend_2 ⟨Nat.le_of_ble_eq_true rfl, Nat.le_of_ble_eq_true rfl⟩ ?_
  refine j_if_eq (tgt := 29) K d_ErrataRow_mend_5 (by decide) (fun q => ?_) (fun q => ?_)
  · have h := wif_t h q
    refine j_iconst (v := (-1)) K d_ErrataRow_mend_29 (by decide) ?_
    refine e_widen (a := 4) (b := 36) (by decide) (by decide) ?_
    exact wret_i K h hr hlk d_ErrataRow_mend_30
  · have h := wif_f h q
    refine j_aload_n K 0 d_ErrataRow_mend_8 rfl rfl ?_
    obtain ⟨q3, h⟩ := wck_e h
    refine eg_ErrataRow_press K ef_ErrataRow_69 q3 d_ErrataRow_mend_9 ?_
    obtain ⟨o4, e4, h⟩ := wbo_e h
    refine j_eqq e4 ?_
    refine j_aload_n K 0 d_ErrataRow_mend_12 rfl rfl ?_
    refine eg_ErrataRow_world K ef_ErrataRow_45 q3 d_ErrataRow_mend_13 ?_
    obtain ⟨o5, e5, h⟩ := wbo_e h
    refine j_eqq e5 ?_
    obtain ⟨q6, h⟩ := wck_e h
    refine eg_World_now K ef_ErrataRow_145 q6 d_ErrataRow_mend_16 ?_
    obtain ⟨o7, e7, h⟩ := wbo_e h
    refine j_eqq e7 ?_
    obtain ⟨q9, h⟩ := wck_e h
    obtain ⟨r8, κ8, e8, h⟩ := wbd_e h
    refine ecallV_i K hN (c_Press_looseOf_ok l D θ N o4 o7 κ1 _ e8) eG_ErrataRow_186 eh_Press_looseOf (by decide) (rmA_ok (by decide) (by decide)) rfl q9 (by decide) rfl (st := []) (Nat.le_of_ble_eq_true rfl) rfl d_ErrataRow_mend_19 ⟨Nat.le_of_ble_eq_true rfl, Nat.le_of_ble_eq_true rfl⟩ ?_
    refine j_iload_n K 1 d_ErrataRow_mend_22 rfl rfl ?_
    obtain ⟨r10, κ10, e10, h⟩ := wbd_e h
    refine ecallS_i K hN (c_ErrataRow_hasBit_ok l D θ N r8 a1 κ8 _ e10) eG_ErrataRow_221 eh_ErrataRow_hasBit (by decide) (rmA_ok (by decide) (by decide)) rfl (st := []) (Nat.le_of_ble_eq_true rfl) rfl d_ErrataRow_mend_23 ⟨Nat.le_of_ble_eq_true rfl, Nat.le_of_ble_eq_true rfl⟩ ?_
    refine j_if_ne (tgt := 31) K d_ErrataRow_mend_26 (by decide) (fun q => ?_) (fun q => ?_)
    · have h := wif_f h q
      refine j_aload_n K 0 d_ErrataRow_mend_31 rfl rfl ?_
      obtain ⟨q11, h⟩ := wck_e h
      refine eg_ErrataRow_history K ef_ErrataRow_56 q11 d_ErrataRow_mend_32 ?_
      obtain ⟨o12, e12, h⟩ := wbo_e h
      refine j_eqq e12 ?_
      refine j_aload_n K 0 d_ErrataRow_mend_35 rfl rfl ?_
      refine eg_ErrataRow_world K ef_ErrataRow_45 q11 d_ErrataRow_mend_36 ?_
      obtain ⟨o13, e13, h⟩ := wbo_e h
      refine j_eqq e13 ?_
      obtain ⟨q14, h⟩ := wck_e h
      refine eg_World_now K ef_ErrataRow_145 q14 d_ErrataRow_mend_39 ?_
      obtain ⟨o15, e15, h⟩ := wbo_e h
      refine j_eqq e15 ?_
      obtain ⟨q17, h⟩ := wck_e h
      refine wcallV_v K hN (c_History_keep_wp l D θ N o12 o15 κ10 _ h) eG_ErrataRow_208 eh_History_keep (rmA_ok (by decide) (by decide)) rfl q17 (by decide) rfl (st := []) (Nat.le_of_ble_eq_true rfl) rfl d_ErrataRow_mend_42 ⟨Nat.le_of_ble_eq_true rfl, Nat.le_of_ble_eq_true rfl⟩ ?_
      intro κ16 h
      refine j_aload_n K 0 d_ErrataRow_mend_45 rfl rfl ?_
      obtain ⟨q18, h⟩ := wck_e h
      refine eg_ErrataRow_world K ef_ErrataRow_45 q18 d_ErrataRow_mend_46 ?_
      obtain ⟨o19, e19, h⟩ := wbo_e h
      refine j_eqq e19 ?_
      obtain ⟨q20, h⟩ := wck_e h
      refine eg_World_now K ef_ErrataRow_145 q20 d_ErrataRow_mend_49 ?_
      obtain ⟨o21, e21, h⟩ := wbo_e h
      refine j_eqq e21 ?_
      obtain ⟨q22, h⟩ := wck_e h
      refine eg_State_put K ef_ErrataRow_148 q22 d_ErrataRow_mend_52 ?_
      obtain ⟨o23, e23, h⟩ := wbo_e h
      refine j_eqq e23 ?_
      refine j_iload_n K 1 d_ErrataRow_mend_55 rfl rfl ?_
      refine j_aload_n K 0 d_ErrataRow_mend_56 rfl rfl ?_
      refine eg_ErrataRow_world K ef_ErrataRow_45 q18 d_ErrataRow_mend_57 ?_
      obtain ⟨o24, e24, h⟩ := wbo_e h
      refine j_eqq e24 ?_
      obtain ⟨q25, h⟩ := wck_e h
      refine eg_World_book K ef_ErrataRow_62 q25 d_ErrataRow_mend_60 ?_
      obtain ⟨o26, e26, h⟩ := wbo_e h
      refine j_eqq e26 ?_
      obtain ⟨q27, h⟩ := wck_e h
      refine eg_Book_meant K ef_ErrataRow_151 q27 d_ErrataRow_mend_63 ?_
      obtain ⟨o28, e28, h⟩ := wbo_e h
      refine j_eqq e28 ?_
      refine j_iload_n K 1 d_ErrataRow_mend_66 rfl rfl ?_
      obtain ⟨q29, h⟩ := wck_e h
      obtain ⟨q30, h⟩ := wck_e h
      refine e_iald K q29 (inb_e q30) d_ErrataRow_mend_67 ?_
      obtain ⟨v31, e31, h⟩ := wlt_e h
      refine j_eqi e31 ?_
      obtain ⟨q32, h⟩ := wck_e h
      obtain ⟨q33, h⟩ := wck_e h
      obtain ⟨κ34, e34, h⟩ := wlt_e h
      refine e_iast K q32 (inb_e q33) d_ErrataRow_mend_68 e34 ?_
      refine j_aload_n K 0 d_ErrataRow_mend_69 rfl rfl ?_
      refine eg_ErrataRow_press K ef_ErrataRow_69 (isK_sai e34 q18) d_ErrataRow_mend_70 ?_
      obtain ⟨o35, e35, h⟩ := wbo_e h
      refine j_eqq e35 ?_
      refine j_aload_n K 0 d_ErrataRow_mend_73 rfl rfl ?_
      refine eg_ErrataRow_world K ef_ErrataRow_45 (isK_sai e34 q18) d_ErrataRow_mend_74 ?_
      obtain ⟨o36, e36, h⟩ := wbo_e h
      refine j_eqq e36 ?_
      obtain ⟨q37, h⟩ := wck_e h
      refine eg_World_now K ef_ErrataRow_145 q37 d_ErrataRow_mend_77 ?_
      obtain ⟨o38, e38, h⟩ := wbo_e h
      refine j_eqq e38 ?_
      obtain ⟨q40, h⟩ := wck_e h
      obtain ⟨r39, κ39, e39, h⟩ := wbd_e h
      refine ecallV_i K hN (c_Press_howManyWrong_ok l D θ N o35 o38 κ34 _ e39) eG_ErrataRow_225 eh_Press_howManyWrong (by decide) (rmA_ok (by decide) (by decide)) rfl q40 (by decide) rfl (st := []) (Nat.le_of_ble_eq_true rfl) rfl d_ErrataRow_mend_80 ⟨Nat.le_of_ble_eq_true rfl, Nat.le_of_ble_eq_true rfl⟩ ?_
      exact wret_i K h hr hlk d_ErrataRow_mend_83
    · have h := wif_t h q
      refine j_iconst (v := (-1)) K d_ErrataRow_mend_29 (by decide) ?_
      refine e_widen (a := 4) (b := 36) (by decide) (by decide) ?_
      exact wret_i K h hr hlk d_ErrataRow_mend_30
def w_ErrataRow_hang (N : Nat) (this : Nat) (a1 : Int32) (a2 : Int32) (κ : Cz) (post : Int32 → Cz → Prop) : Prop := wck (isK κ this 11) (wbd (p_ErrataRow_isLetter N this a1 κ) (fun r1 κ1 => wif (r1 = 0) (post (-1) κ1) (wck (isK κ1 this 11) (wbd (p_ErrataRow_isLetter N this a2 κ1) (fun r3 κ3 => wif (r3 = 0) (post (-1) κ3) (wif (a1 = a2) (post (-1) κ3) (wck (isK κ3 this 11) (wbo (fr κ3 this 9) (fun o6 => wbo (fr κ3 this 7) (fun o7 => wck (isK κ3 o7 10) (wbo (fr κ3 o7 1) (fun o9 => wck (isK κ3 o6 2) (w_History_keep N o6 o9 κ3 (fun κ10 => wck (isK κ10 this 11) (wbo (fr κ10 this 7) (fun o13 => wck (isK κ10 o13 10) (wbo (fr κ10 o13 1) (fun o15 => wck (isK κ10 o15 8) (wbo (fr κ10 o15 2) (fun o17 => wck (isK κ10 o17 20) (wck (inb a1 (ln κ10 o17)) (wlt ((ai κ10 o17 a1.toNatClampNeg) ^^^ ((1 : Int32) <<< (a2 &&& 31))) (fun v20 => wck (inb a1 (ln κ10 o17)) (wlt (sai o17 (upd (ai κ10 o17) a1.toNatClampNeg v20) κ10) (fun κ22 => wbo (fr κ22 this 7) (fun o23 => wck (isK κ22 o23 10) (wbo (fr κ22 o23 1) (fun o25 => wck (isK κ22 o25 8) (wbo (fr κ22 o25 2) (fun o27 => wck (isK κ22 o27 20) (wck (inb a1 (ln κ22 o27)) (wbd (p_ErrataRow_hasBit N (ai κ22 o27 a1.toNatClampNeg) a2 κ22) (fun r30 κ30 => wif (r30 = 0) (post 0 κ30) (post 1 κ30))))))))))))))))))))))))))))))))))
set_option maxHeartbeats 8000000 in
set_option maxRecDepth 100000 in
theorem c_ErrataRow_hang_wp (l : Launch) (D : va_G) (θ : Tc) (N : Nat) (this : Nat) (a1 : Int32) (a2 : Int32) (κ : Cz) (post : Int32 → Cz → Prop) (h : w_ErrataRow_hang N this a1 a2 κ post) : CWi l D θ y_ErrataRow_hang c_ErrataRow_hang 3 (some .int) 3 4 36 [.ref this, .int a1, .int a2] κ post := by
  intro sz
  refine e_met l [.ref this, .int a1, .int a2] (by decide +kernel) (Nat.le_of_ble_eq_true rfl) ?_
  intro p e s m args below meth c K hN hr hlk hnm hs
  generalize va_A (wE θ κ) sz = A at K ⊢
  have K : KE p s m args c c_ErrataRow_hang 3 "ErrataRow" y_ErrataRow_hang (some .int) D θ A := K
  show JE p l e (rmA 3 4 36) s m args below meth c D θ A 3 0 0 (QWi below args s D θ A 4 36 post) κ [(0, .ref this), (1, .int a1), (2, .int a2)] [] 0
  unfold w_ErrataRow_hang at h
  refine j_aload_n K 0 d_ErrataRow_hang_0 rfl rfl ?_
  refine j_iload_n K 1 d_ErrataRow_hang_1 rfl rfl ?_
  obtain ⟨q2, h⟩ := wck_e h
  obtain ⟨r1, κ1, e1, h⟩ := wbd_e h
  refine ecallV_i K hN (c_ErrataRow_isLetter_ok l D θ N this a1 κ _ e1) eG_ErrataRow_141 eh_ErrataRow_isLetter (by decide) (rmA_ok (by decide) (by decide)) rfl q2 (by decide) rfl (st := []) (Nat.le_of_ble_eq_true rfl) rfl d_ErrataRow_hang_2 ⟨Nat.le_of_ble_eq_true rfl, Nat.le_of_ble_eq_true rfl⟩ ?_
  refine j_if_eq (tgt := 21) K d_ErrataRow_hang_5 (by decide) (fun q => ?_) (fun q => ?_)
  · have h := wif_t h q
    refine j_iconst (v := (-1)) K d_ErrataRow_hang_21 (by decide) ?_
    refine e_widen (a := 4) (b := 36) (by decide) (by decide) ?_
    exact wret_i K h hr hlk d_ErrataRow_hang_22
  · have h := wif_f h q
    refine j_aload_n K 0 d_ErrataRow_hang_8 rfl rfl ?_
    refine j_iload_n K 2 d_ErrataRow_hang_9 rfl rfl ?_
    obtain ⟨q4, h⟩ := wck_e h
    obtain ⟨r3, κ3, e3, h⟩ := wbd_e h
    refine ecallV_i K hN (c_ErrataRow_isLetter_ok l D θ N this a2 κ1 _ e3) eG_ErrataRow_141 eh_ErrataRow_isLetter (by decide) (rmA_ok (by decide) (by decide)) rfl q4 (by decide) rfl (st := []) (Nat.le_of_ble_eq_true rfl) rfl d_ErrataRow_hang_10 ⟨Nat.le_of_ble_eq_true rfl, Nat.le_of_ble_eq_true rfl⟩ ?_
    refine j_if_eq (tgt := 21) K d_ErrataRow_hang_13 (by decide) (fun q => ?_) (fun q => ?_)
    · have h := wif_t h q
      refine j_iconst (v := (-1)) K d_ErrataRow_hang_21 (by decide) ?_
      refine e_widen (a := 4) (b := 36) (by decide) (by decide) ?_
      exact wret_i K h hr hlk d_ErrataRow_hang_22
    · have h := wif_f h q
      refine j_iload_n K 1 d_ErrataRow_hang_16 rfl rfl ?_
      refine j_iload_n K 2 d_ErrataRow_hang_17 rfl rfl ?_
      refine j_icmp_ne (tgt := 23) K d_ErrataRow_hang_18 (by decide) (fun q => ?_) (fun q => ?_)
      · have h := wif_f h q
        refine j_aload_n K 0 d_ErrataRow_hang_23 rfl rfl ?_
        obtain ⟨q5, h⟩ := wck_e h
        refine eg_ErrataRow_history K ef_ErrataRow_56 q5 d_ErrataRow_hang_24 ?_
        obtain ⟨o6, e6, h⟩ := wbo_e h
        refine j_eqq e6 ?_
        refine j_aload_n K 0 d_ErrataRow_hang_27 rfl rfl ?_
        refine eg_ErrataRow_world K ef_ErrataRow_45 q5 d_ErrataRow_hang_28 ?_
        obtain ⟨o7, e7, h⟩ := wbo_e h
        refine j_eqq e7 ?_
        obtain ⟨q8, h⟩ := wck_e h
        refine eg_World_now K ef_ErrataRow_145 q8 d_ErrataRow_hang_31 ?_
        obtain ⟨o9, e9, h⟩ := wbo_e h
        refine j_eqq e9 ?_
        obtain ⟨q11, h⟩ := wck_e h
        refine wcallV_v K hN (c_History_keep_wp l D θ N o6 o9 κ3 _ h) eG_ErrataRow_208 eh_History_keep (rmA_ok (by decide) (by decide)) rfl q11 (by decide) rfl (st := []) (Nat.le_of_ble_eq_true rfl) rfl d_ErrataRow_hang_34 ⟨Nat.le_of_ble_eq_true rfl, Nat.le_of_ble_eq_true rfl⟩ ?_
        intro κ10 h
        refine j_aload_n K 0 d_ErrataRow_hang_37 rfl rfl ?_
        obtain ⟨q12, h⟩ := wck_e h
        refine eg_ErrataRow_world K ef_ErrataRow_45 q12 d_ErrataRow_hang_38 ?_
        obtain ⟨o13, e13, h⟩ := wbo_e h
        refine j_eqq e13 ?_
        obtain ⟨q14, h⟩ := wck_e h
        refine eg_World_now K ef_ErrataRow_145 q14 d_ErrataRow_hang_41 ?_
        obtain ⟨o15, e15, h⟩ := wbo_e h
        refine j_eqq e15 ?_
        obtain ⟨q16, h⟩ := wck_e h
        refine eg_State_hangs K ef_ErrataRow_157 q16 d_ErrataRow_hang_44 ?_
        obtain ⟨o17, e17, h⟩ := wbo_e h
        refine j_eqq e17 ?_
        refine j_iload_n K 1 d_ErrataRow_hang_47 rfl rfl ?_
        refine j_dup2 K d_ErrataRow_hang_48 rfl rfl ?_
        obtain ⟨q18, h⟩ := wck_e h
        obtain ⟨q19, h⟩ := wck_e h
        refine e_iald K q18 (inb_e q19) d_ErrataRow_hang_49 ?_
        refine j_iconst (v := 1) K d_ErrataRow_hang_50 (by decide) ?_
        refine j_iload_n K 2 d_ErrataRow_hang_51 rfl rfl ?_
        refine j_ishl K d_ErrataRow_hang_52 ?_
        refine j_ixor K d_ErrataRow_hang_53 ?_
        obtain ⟨v20, e20, h⟩ := wlt_e h
        refine j_eqi e20 ?_
        obtain ⟨q21, h⟩ := wck_e h
        obtain ⟨κ22, e22, h⟩ := wlt_e h
        refine e_iast K q18 (inb_e q21) d_ErrataRow_hang_54 e22 ?_
        refine j_aload_n K 0 d_ErrataRow_hang_55 rfl rfl ?_
        refine eg_ErrataRow_world K ef_ErrataRow_45 (isK_sai e22 q12) d_ErrataRow_hang_56 ?_
        obtain ⟨o23, e23, h⟩ := wbo_e h
        refine j_eqq e23 ?_
        obtain ⟨q24, h⟩ := wck_e h
        refine eg_World_now K ef_ErrataRow_145 q24 d_ErrataRow_hang_59 ?_
        obtain ⟨o25, e25, h⟩ := wbo_e h
        refine j_eqq e25 ?_
        obtain ⟨q26, h⟩ := wck_e h
        refine eg_State_hangs K ef_ErrataRow_157 q26 d_ErrataRow_hang_62 ?_
        obtain ⟨o27, e27, h⟩ := wbo_e h
        refine j_eqq e27 ?_
        refine j_iload_n K 1 d_ErrataRow_hang_65 rfl rfl ?_
        obtain ⟨q28, h⟩ := wck_e h
        obtain ⟨q29, h⟩ := wck_e h
        refine e_iald K q28 (inb_e q29) d_ErrataRow_hang_66 ?_
        refine j_iload_n K 2 d_ErrataRow_hang_67 rfl rfl ?_
        obtain ⟨r30, κ30, e30, h⟩ := wbd_e h
        refine ecallS_i K hN (c_ErrataRow_hasBit_ok l D θ N (ai κ22 o27 a1.toNatClampNeg) a2 κ22 _ e30) eG_ErrataRow_221 eh_ErrataRow_hasBit (by decide) (rmA_ok (by decide) (by decide)) rfl (st := []) (Nat.le_of_ble_eq_true rfl) rfl d_ErrataRow_hang_68 ⟨Nat.le_of_ble_eq_true rfl, Nat.le_of_ble_eq_true rfl⟩ ?_
        refine j_if_eq (tgt := 78) K d_ErrataRow_hang_71 (by decide) (fun q => ?_) (fun q => ?_)
        · have h := wif_t h q
          refine j_iconst (v := 0) K d_ErrataRow_hang_78 (by decide) ?_
          exact wret_i K h hr hlk d_ErrataRow_hang_79
        · have h := wif_f h q
          refine j_iconst (v := 1) K d_ErrataRow_hang_74 (by decide) ?_
          refine j_goto (tgt := 79) K d_ErrataRow_hang_75 (by decide) ?_
          exact wret_i K h hr hlk d_ErrataRow_hang_79
      · have h := wif_t h q
        refine j_iconst (v := (-1)) K d_ErrataRow_hang_21 (by decide) ?_
        refine e_widen (a := 4) (b := 36) (by decide) (by decide) ?_
        exact wret_i K h hr hlk d_ErrataRow_hang_22
