def p_State_copyFrom (N : Nat) (this : Nat) (a1 : Nat) (κ : Cz) : Option (Cz) := ck (isK κ a1 8) (bo (fr κ a1 0) (fun o2 => ck (isK κ this 8) (bo (fr κ this 0) (fun o4 => ck (isK κ o2 20) (ck (isK κ o4 20) (ck (decide ((0 : Int32).toNatClampNeg + (10 : Int32).toNatClampNeg ≤ ln κ o2)) (ck (decide ((0 : Int32).toNatClampNeg + (10 : Int32).toNatClampNeg ≤ ln κ o4)) (lt (sai o4 (va_cpy (ai κ o2) (ai κ o4) (0 : Int32).toNatClampNeg (0 : Int32).toNatClampNeg (10 : Int32).toNatClampNeg) κ) (fun κ9 => bo (fr κ9 a1 1) (fun o10 => bo (fr κ9 this 1) (fun o11 => ck (isK κ9 o10 20) (ck (isK κ9 o11 20) (ck (decide ((0 : Int32).toNatClampNeg + (10 : Int32).toNatClampNeg ≤ ln κ9 o10)) (ck (decide ((0 : Int32).toNatClampNeg + (10 : Int32).toNatClampNeg ≤ ln κ9 o11)) (lt (sai o11 (va_cpy (ai κ9 o10) (ai κ9 o11) (0 : Int32).toNatClampNeg (0 : Int32).toNatClampNeg (10 : Int32).toNatClampNeg) κ9) (fun κ16 => bo (fr κ16 a1 2) (fun o17 => bo (fr κ16 this 2) (fun o18 => ck (isK κ16 o17 20) (ck (isK κ16 o18 20) (ck (decide ((0 : Int32).toNatClampNeg + (10 : Int32).toNatClampNeg ≤ ln κ16 o17)) (ck (decide ((0 : Int32).toNatClampNeg + (10 : Int32).toNatClampNeg ≤ ln κ16 o18)) (lt (sai o18 (va_cpy (ai κ16 o17) (ai κ16 o18) (0 : Int32).toNatClampNeg (0 : Int32).toNatClampNeg (10 : Int32).toNatClampNeg) κ16) (fun κ23 => lt (fi κ23 a1 3) (fun v24 => lt (sfi this 3 v24 κ23) (fun κ25 => lt (fi κ25 a1 4) (fun v26 => lt (sfi this 4 v26 κ25) (fun κ27 => lt (fi κ27 a1 5) (fun v28 => lt (sfi this 5 v28 κ27) (fun κ29 => some κ29)))))))))))))))))))))))))))))
set_option maxHeartbeats 4000000 in
set_option maxRecDepth 100000 in
theorem c_State_copyFrom_ok (l : Launch) (D : va_G) (θ : Tc) (N : Nat) (this : Nat) (a1 : Nat) (κ : Cz) (ρ : Cz) (h : p_State_copyFrom N this a1 κ = some ρ) : CEv l D θ y_State_copyFrom c_State_copyFrom 2 none 1 0 0 [.ref this, .ref a1] κ ρ := by
  intro sz
  refine e_met l [.ref this, .ref a1] (by decide +kernel) (Nat.le_of_ble_eq_true rfl) ?_
  intro p e s m args below meth c K hN hr hlk hnm hs
  generalize va_A (wE θ κ) sz = A at K ⊢
  have K : KE p s m args c c_State_copyFrom 2 "ErrataRow$State" y_State_copyFrom none D θ A := K
  show JE p l e (rmA 1 0 0) s m args below meth c D θ A 2 0 0 (QEv below args s D θ A 0 0 ρ) κ [(0, .ref this), (1, .ref a1)] [] 0
  unfold p_State_copyFrom at h
  refine j_aload_n K 1 d_State_copyFrom_0 rfl rfl ?_
  obtain ⟨q1, h⟩ := ck_e h
  refine eg_State_put K ef_State_9 q1 d_State_copyFrom_1 ?_
  obtain ⟨o2, e2, h⟩ := bo_e h
  refine j_eqq e2 ?_
  refine j_iconst (v := 0) K d_State_copyFrom_4 (by decide) ?_
  refine j_aload_n K 0 d_State_copyFrom_5 rfl rfl ?_
  obtain ⟨q3, h⟩ := ck_e h
  refine eg_State_put K ef_State_9 q3 d_State_copyFrom_6 ?_
  obtain ⟨o4, e4, h⟩ := bo_e h
  refine j_eqq e4 ?_
  refine j_iconst (v := 0) K d_State_copyFrom_9 (by decide) ?_
  refine j_bipush (v := 10) K d_State_copyFrom_10 (by decide) ?_
  obtain ⟨q5, h⟩ := ck_e h
  obtain ⟨q6, h⟩ := ck_e h
  obtain ⟨q7, h⟩ := ck_e h
  obtain ⟨q8, h⟩ := ck_e h
  obtain ⟨κ9, e9, h⟩ := lt_e h
  refine e_copy K el_State_21 en_copy es_copy ei_System q5 q6 (by decide) (by decide) (by decide) (of_decide_eq_true q7) (of_decide_eq_true q8) (by decide) (Nat.le_of_ble_eq_true rfl) d_State_copyFrom_12 e9 ?_
  refine j_aload_n K 1 d_State_copyFrom_15 rfl rfl ?_
  refine eg_State_paid K ef_State_15 (isK_sai e9 q1) d_State_copyFrom_16 ?_
  obtain ⟨o10, e10, h⟩ := bo_e h
  refine j_eqq e10 ?_
  refine j_iconst (v := 0) K d_State_copyFrom_19 (by decide) ?_
  refine j_aload_n K 0 d_State_copyFrom_20 rfl rfl ?_
  refine eg_State_paid K ef_State_15 (isK_sai e9 q3) d_State_copyFrom_21 ?_
  obtain ⟨o11, e11, h⟩ := bo_e h
  refine j_eqq e11 ?_
  refine j_iconst (v := 0) K d_State_copyFrom_24 (by decide) ?_
  refine j_bipush (v := 10) K d_State_copyFrom_25 (by decide) ?_
  obtain ⟨q12, h⟩ := ck_e h
  obtain ⟨q13, h⟩ := ck_e h
  obtain ⟨q14, h⟩ := ck_e h
  obtain ⟨q15, h⟩ := ck_e h
  obtain ⟨κ16, e16, h⟩ := lt_e h
  refine e_copy K el_State_21 en_copy es_copy ei_System q12 q13 (by decide) (by decide) (by decide) (of_decide_eq_true q14) (of_decide_eq_true q15) (by decide) (Nat.le_of_ble_eq_true rfl) d_State_copyFrom_27 e16 ?_
  refine j_aload_n K 1 d_State_copyFrom_30 rfl rfl ?_
  refine eg_State_hangs K ef_State_18 (isK_sai e16 (isK_sai e9 q1)) d_State_copyFrom_31 ?_
  obtain ⟨o17, e17, h⟩ := bo_e h
  refine j_eqq e17 ?_
  refine j_iconst (v := 0) K d_State_copyFrom_34 (by decide) ?_
  refine j_aload_n K 0 d_State_copyFrom_35 rfl rfl ?_
  refine eg_State_hangs K ef_State_18 (isK_sai e16 (isK_sai e9 q3)) d_State_copyFrom_36 ?_
  obtain ⟨o18, e18, h⟩ := bo_e h
  refine j_eqq e18 ?_
  refine j_iconst (v := 0) K d_State_copyFrom_39 (by decide) ?_
  refine j_bipush (v := 10) K d_State_copyFrom_40 (by decide) ?_
  obtain ⟨q19, h⟩ := ck_e h
  obtain ⟨q20, h⟩ := ck_e h
  obtain ⟨q21, h⟩ := ck_e h
  obtain ⟨q22, h⟩ := ck_e h
  obtain ⟨κ23, e23, h⟩ := lt_e h
  refine e_copy K el_State_21 en_copy es_copy ei_System q19 q20 (by decide) (by decide) (by decide) (of_decide_eq_true q21) (of_decide_eq_true q22) (by decide) (Nat.le_of_ble_eq_true rfl) d_State_copyFrom_42 e23 ?_
  refine j_aload_n K 0 d_State_copyFrom_45 rfl rfl ?_
  refine j_aload_n K 1 d_State_copyFrom_46 rfl rfl ?_
  refine eg_State_purse K ef_State_27 (isK_sai e23 (isK_sai e16 (isK_sai e9 q1))) d_State_copyFrom_47 ?_
  obtain ⟨v24, e24, h⟩ := lt_e h
  refine j_eqi e24 ?_
  obtain ⟨κ25, e25, h⟩ := lt_e h
  refine ep_State_purse K ef_State_27 (isK_sai e23 (isK_sai e16 (isK_sai e9 q3))) d_State_copyFrom_50 e25 ?_
  refine j_aload_n K 0 d_State_copyFrom_53 rfl rfl ?_
  refine j_aload_n K 1 d_State_copyFrom_54 rfl rfl ?_
  refine eg_State_owed K ef_State_31 (isK_sfi e25 (isK_sai e23 (isK_sai e16 (isK_sai e9 q1)))) d_State_copyFrom_55 ?_
  obtain ⟨v26, e26, h⟩ := lt_e h
  refine j_eqi e26 ?_
  obtain ⟨κ27, e27, h⟩ := lt_e h
  refine ep_State_owed K ef_State_31 (isK_sfi e25 (isK_sai e23 (isK_sai e16 (isK_sai e9 q3)))) d_State_copyFrom_58 e27 ?_
  refine j_aload_n K 0 d_State_copyFrom_61 rfl rfl ?_
  refine j_aload_n K 1 d_State_copyFrom_62 rfl rfl ?_
  refine eg_State_edition K ef_State_34 (isK_sfi e27 (isK_sfi e25 (isK_sai e23 (isK_sai e16 (isK_sai e9 q1))))) d_State_copyFrom_63 ?_
  obtain ⟨v28, e28, h⟩ := lt_e h
  refine j_eqi e28 ?_
  obtain ⟨κ29, e29, h⟩ := lt_e h
  refine ep_State_edition K ef_State_34 (isK_sfi e27 (isK_sfi e25 (isK_sai e23 (isK_sai e16 (isK_sai e9 q3))))) d_State_copyFrom_66 e29 ?_
  exact eret_v K h hr hlk d_State_copyFrom_69
def p_Tokens_add (N : Nat) (this : Nat) (a1 : Int32) (a2 : Int32) (a3 : Int32) (κ : Cz) : Option (Cz) := ck (isK κ this 9) (bo (fr κ this 0) (fun o2 => ck (isK κ o2 20) (if (nI (ln κ o2)) ≤ (fi κ this 3) then some κ else bo (fr κ this 0) (fun o4 => ck (isK κ o4 20) (ck (inb (fi κ this 3) (ln κ o4)) (lt (sai o4 (upd (ai κ o4) (fi κ this 3).toNatClampNeg a1) κ) (fun κ7 => bo (fr κ7 this 1) (fun o8 => ck (isK κ7 o8 20) (ck (inb (fi κ7 this 3) (ln κ7 o8)) (lt (sai o8 (upd (ai κ7 o8) (fi κ7 this 3).toNatClampNeg a2) κ7) (fun κ11 => bo (fr κ11 this 2) (fun o12 => ck (isK κ11 o12 20) (ck (inb (fi κ11 this 3) (ln κ11 o12)) (lt (sai o12 (upd (ai κ11 o12) (fi κ11 this 3).toNatClampNeg a3) κ11) (fun κ15 => lt ((fi κ15 this 3) + 1) (fun v16 => lt (sfi this 3 v16 κ15) (fun κ17 => some κ17)))))))))))))))))
set_option maxHeartbeats 4000000 in
set_option maxRecDepth 100000 in
theorem c_Tokens_add_ok (l : Launch) (D : va_G) (θ : Tc) (N : Nat) (this : Nat) (a1 : Int32) (a2 : Int32) (a3 : Int32) (κ : Cz) (ρ : Cz) (h : p_Tokens_add N this a1 a2 a3 κ = some ρ) : CEv l D θ y_Tokens_add c_Tokens_add 4 none 1 0 0 [.ref this, .int a1, .int a2, .int a3] κ ρ := by
  intro sz
  refine e_met l [.ref this, .int a1, .int a2, .int a3] (by decide +kernel) (Nat.le_of_ble_eq_true rfl) ?_
  intro p e s m args below meth c K hN hr hlk hnm hs
  generalize va_A (wE θ κ) sz = A at K ⊢
  have K : KE p s m args c c_Tokens_add 4 "ErrataRow$Tokens" y_Tokens_add none D θ A := K
  show JE p l e (rmA 1 0 0) s m args below meth c D θ A 4 0 0 (QEv below args s D θ A 0 0 ρ) κ [(0, .ref this), (1, .int a1), (2, .int a2), (3, .int a3)] [] 0
  unfold p_Tokens_add at h
  refine j_aload_n K 0 d_Tokens_add_0 rfl rfl ?_
  obtain ⟨q1, h⟩ := ck_e h
  refine eg_Tokens_size K ef_Tokens_21 q1 d_Tokens_add_1 ?_
  refine j_aload_n K 0 d_Tokens_add_4 rfl rfl ?_
  refine eg_Tokens_kinds K ef_Tokens_9 q1 d_Tokens_add_5 ?_
  obtain ⟨o2, e2, h⟩ := bo_e h
  refine j_eqq e2 ?_
  obtain ⟨q3, h⟩ := ck_e h
  refine e_alen K q3 d_Tokens_add_8 ?_
  refine j_icmp_ge (tgt := 52) K d_Tokens_add_9 (by decide) (fun q => ?_) (fun q => ?_)
  · have h := if_t h q
    exact eret_v K h hr hlk d_Tokens_add_52
  · have h := if_f h q
    refine j_aload_n K 0 d_Tokens_add_12 rfl rfl ?_
    refine eg_Tokens_kinds K ef_Tokens_9 q1 d_Tokens_add_13 ?_
    obtain ⟨o4, e4, h⟩ := bo_e h
    refine j_eqq e4 ?_
    refine j_aload_n K 0 d_Tokens_add_16 rfl rfl ?_
    refine eg_Tokens_size K ef_Tokens_21 q1 d_Tokens_add_17 ?_
    refine j_iload_n K 1 d_Tokens_add_20 rfl rfl ?_
    obtain ⟨q5, h⟩ := ck_e h
    obtain ⟨q6, h⟩ := ck_e h
    obtain ⟨κ7, e7, h⟩ := lt_e h
    refine e_iast K q5 (inb_e q6) d_Tokens_add_21 e7 ?_
    refine j_aload_n K 0 d_Tokens_add_22 rfl rfl ?_
    refine eg_Tokens_values K ef_Tokens_15 (isK_sai e7 q1) d_Tokens_add_23 ?_
    obtain ⟨o8, e8, h⟩ := bo_e h
    refine j_eqq e8 ?_
    refine j_aload_n K 0 d_Tokens_add_26 rfl rfl ?_
    refine eg_Tokens_size K ef_Tokens_21 (isK_sai e7 q1) d_Tokens_add_27 ?_
    refine j_iload_n K 2 d_Tokens_add_30 rfl rfl ?_
    obtain ⟨q9, h⟩ := ck_e h
    obtain ⟨q10, h⟩ := ck_e h
    obtain ⟨κ11, e11, h⟩ := lt_e h
    refine e_iast K q9 (inb_e q10) d_Tokens_add_31 e11 ?_
    refine j_aload_n K 0 d_Tokens_add_32 rfl rfl ?_
    refine eg_Tokens_places K ef_Tokens_18 (isK_sai e11 (isK_sai e7 q1)) d_Tokens_add_33 ?_
    obtain ⟨o12, e12, h⟩ := bo_e h
    refine j_eqq e12 ?_
    refine j_aload_n K 0 d_Tokens_add_36 rfl rfl ?_
    refine eg_Tokens_size K ef_Tokens_21 (isK_sai e11 (isK_sai e7 q1)) d_Tokens_add_37 ?_
    refine j_iload_n K 3 d_Tokens_add_40 rfl rfl ?_
    obtain ⟨q13, h⟩ := ck_e h
    obtain ⟨q14, h⟩ := ck_e h
    obtain ⟨κ15, e15, h⟩ := lt_e h
    refine e_iast K q13 (inb_e q14) d_Tokens_add_41 e15 ?_
    refine j_aload_n K 0 d_Tokens_add_42 rfl rfl ?_
    refine j_dup K d_Tokens_add_43 rfl ?_
    refine eg_Tokens_size K ef_Tokens_21 (isK_sai e15 (isK_sai e11 (isK_sai e7 q1))) d_Tokens_add_44 ?_
    refine j_iconst (v := 1) K d_Tokens_add_47 (by decide) ?_
    refine j_iadd K d_Tokens_add_48 ?_
    obtain ⟨v16, e16, h⟩ := lt_e h
    refine j_eqi e16 ?_
    obtain ⟨κ17, e17, h⟩ := lt_e h
    refine ep_Tokens_size K ef_Tokens_21 (isK_sai e15 (isK_sai e11 (isK_sai e7 q1))) d_Tokens_add_49 e17 ?_
    exact eret_v K h hr hlk d_Tokens_add_52
def p_Tokens_isDigit (N : Nat) (a1 : Int32) (κ : Cz) : Option (Int32 × Cz) := if a1 < 48 then some (0, κ) else if 57 < a1 then some (0, κ) else some (1, κ)
set_option maxHeartbeats 4000000 in
set_option maxRecDepth 100000 in
theorem c_Tokens_isDigit_ok (l : Launch) (D : va_G) (θ : Tc) (N : Nat) (a1 : Int32) (κ : Cz) (ρ : Int32 × Cz) (h : p_Tokens_isDigit N a1 κ = some ρ) : CEi l D θ y_Tokens_isDigit c_Tokens_isDigit 1 (some .boolean) 1 0 0 [.int a1] κ ρ := by
  intro sz
  refine e_met l [.int a1] (by decide +kernel) (Nat.le_of_ble_eq_true rfl) ?_
  intro p e s m args below meth c K hN hr hlk hnm hs
  generalize va_A (wE θ κ) sz = A at K ⊢
  have K : KE p s m args c c_Tokens_isDigit 1 "ErrataRow$Tokens" y_Tokens_isDigit (some .boolean) D θ A := K
  show JE p l e (rmA 1 0 0) s m args below meth c D θ A 1 0 0 (QEi below args s D θ A 0 0 ρ) κ [(0, .int a1)] [] 0
  unfold p_Tokens_isDigit at h
  refine j_iload_n K 0 d_Tokens_isDigit_0 rfl rfl ?_
  refine j_bipush (v := 48) K d_Tokens_isDigit_1 (by decide) ?_
  refine j_icmp_lt (tgt := 16) K d_Tokens_isDigit_3 (by decide) (fun q => ?_) (fun q => ?_)
  · have h := if_t h q
    refine j_iconst (v := 0) K d_Tokens_isDigit_16 (by decide) ?_
    exact eret_z K h rfl hr hlk d_Tokens_isDigit_17
  · have h := if_f h q
    refine j_iload_n K 0 d_Tokens_isDigit_6 rfl rfl ?_
    refine j_bipush (v := 57) K d_Tokens_isDigit_7 (by decide) ?_
    refine j_icmp_gt (tgt := 16) K d_Tokens_isDigit_9 (by decide) (fun q => ?_) (fun q => ?_)
    · have h := if_t h q
      refine j_iconst (v := 0) K d_Tokens_isDigit_16 (by decide) ?_
      exact eret_z K h rfl hr hlk d_Tokens_isDigit_17
    · have h := if_f h q
      refine j_iconst (v := 1) K d_Tokens_isDigit_12 (by decide) ?_
      refine j_goto (tgt := 17) K d_Tokens_isDigit_13 (by decide) ?_
      exact eret_z K h rfl hr hlk d_Tokens_isDigit_17
def p_Tokens_isSmall (N : Nat) (a1 : Int32) (κ : Cz) : Option (Int32 × Cz) := if a1 < 97 then some (0, κ) else if 122 < a1 then some (0, κ) else some (1, κ)
set_option maxHeartbeats 4000000 in
set_option maxRecDepth 100000 in
theorem c_Tokens_isSmall_ok (l : Launch) (D : va_G) (θ : Tc) (N : Nat) (a1 : Int32) (κ : Cz) (ρ : Int32 × Cz) (h : p_Tokens_isSmall N a1 κ = some ρ) : CEi l D θ y_Tokens_isSmall c_Tokens_isSmall 1 (some .boolean) 1 0 0 [.int a1] κ ρ := by
  intro sz
  refine e_met l [.int a1] (by decide +kernel) (Nat.le_of_ble_eq_true rfl) ?_
  intro p e s m args below meth c K hN hr hlk hnm hs
  generalize va_A (wE θ κ) sz = A at K ⊢
  have K : KE p s m args c c_Tokens_isSmall 1 "ErrataRow$Tokens" y_Tokens_isSmall (some .boolean) D θ A := K
  show JE p l e (rmA 1 0 0) s m args below meth c D θ A 1 0 0 (QEi below args s D θ A 0 0 ρ) κ [(0, .int a1)] [] 0
  unfold p_Tokens_isSmall at h
  refine j_iload_n K 0 d_Tokens_isSmall_0 rfl rfl ?_
  refine j_bipush (v := 97) K d_Tokens_isSmall_1 (by decide) ?_
  refine j_icmp_lt (tgt := 16) K d_Tokens_isSmall_3 (by decide) (fun q => ?_) (fun q => ?_)
  · have h := if_t h q
    refine j_iconst (v := 0) K d_Tokens_isSmall_16 (by decide) ?_
    exact eret_z K h rfl hr hlk d_Tokens_isSmall_17
  · have h := if_f h q
    refine j_iload_n K 0 d_Tokens_isSmall_6 rfl rfl ?_
    refine j_bipush (v := 122) K d_Tokens_isSmall_7 (by decide) ?_
    refine j_icmp_gt (tgt := 16) K d_Tokens_isSmall_9 (by decide) (fun q => ?_) (fun q => ?_)
    · have h := if_t h q
      refine j_iconst (v := 0) K d_Tokens_isSmall_16 (by decide) ?_
      exact eret_z K h rfl hr hlk d_Tokens_isSmall_17
    · have h := if_f h q
      refine j_iconst (v := 1) K d_Tokens_isSmall_12 (by decide) ?_
      refine j_goto (tgt := 17) K d_Tokens_isSmall_13 (by decide) ?_
      exact eret_z K h rfl hr hlk d_Tokens_isSmall_17
def p_Tokens_isWord (N : Nat) (this : Nat) (a1 : Int32) (κ : Cz) : Option (Int32 × Cz) := ck (isK κ this 9) (if (fi κ this 5) = 3 then if (fi κ this 6) = a1 then some (1, κ) else some (0, κ) else some (0, κ))
set_option maxHeartbeats 4000000 in
set_option maxRecDepth 100000 in
theorem c_Tokens_isWord_ok (l : Launch) (D : va_G) (θ : Tc) (N : Nat) (this : Nat) (a1 : Int32) (κ : Cz) (ρ : Int32 × Cz) (h : p_Tokens_isWord N this a1 κ = some ρ) : CEi l D θ y_Tokens_isWord c_Tokens_isWord 2 (some .boolean) 1 0 0 [.ref this, .int a1] κ ρ := by
  intro sz
  refine e_met l [.ref this, .int a1] (by decide +kernel) (Nat.le_of_ble_eq_true rfl) ?_
  intro p e s m args below meth c K hN hr hlk hnm hs
  generalize va_A (wE θ κ) sz = A at K ⊢
  have K : KE p s m args c c_Tokens_isWord 2 "ErrataRow$Tokens" y_Tokens_isWord (some .boolean) D θ A := K
  show JE p l e (rmA 1 0 0) s m args below meth c D θ A 2 0 0 (QEi below args s D θ A 0 0 ρ) κ [(0, .ref this), (1, .int a1)] [] 0
  unfold p_Tokens_isWord at h
  refine j_aload_n K 0 d_Tokens_isWord_0 rfl rfl ?_
  obtain ⟨q1, h⟩ := ck_e h
  refine eg_Tokens_kind K ef_Tokens_42 q1 d_Tokens_isWord_1 ?_
  refine j_iconst (v := 3) K d_Tokens_isWord_4 (by decide) ?_
  refine j_icmp_ne (tgt := 20) K d_Tokens_isWord_5 (by decide) (fun q => ?_) (fun q => ?_)
  · have h := if_f h q
    refine j_iconst (v := 0) K d_Tokens_isWord_20 (by decide) ?_
    exact eret_z K h rfl hr hlk d_Tokens_isWord_21
  · have h := if_t h q
    refine j_aload_n K 0 d_Tokens_isWord_8 rfl rfl ?_
    refine eg_Tokens_value K ef_Tokens_45 q1 d_Tokens_isWord_9 ?_
    refine j_iload_n K 1 d_Tokens_isWord_12 rfl rfl ?_
    refine j_icmp_ne (tgt := 20) K d_Tokens_isWord_13 (by decide) (fun q => ?_) (fun q => ?_)
    · have h := if_f h q
      refine j_iconst (v := 0) K d_Tokens_isWord_20 (by decide) ?_
      exact eret_z K h rfl hr hlk d_Tokens_isWord_21
    · have h := if_t h q
      refine j_iconst (v := 1) K d_Tokens_isWord_16 (by decide) ?_
      refine j_goto (tgt := 21) K d_Tokens_isWord_17 (by decide) ?_
      exact eret_z K h rfl hr hlk d_Tokens_isWord_21
def p_Tokens_isSign (N : Nat) (this : Nat) (a1 : Int32) (κ : Cz) : Option (Int32 × Cz) := ck (isK κ this 9) (if (fi κ this 5) = 4 then if (fi κ this 6) = a1 then some (1, κ) else some (0, κ) else some (0, κ))
set_option maxHeartbeats 4000000 in
set_option maxRecDepth 100000 in
theorem c_Tokens_isSign_ok (l : Launch) (D : va_G) (θ : Tc) (N : Nat) (this : Nat) (a1 : Int32) (κ : Cz) (ρ : Int32 × Cz) (h : p_Tokens_isSign N this a1 κ = some ρ) : CEi l D θ y_Tokens_isSign c_Tokens_isSign 2 (some .boolean) 1 0 0 [.ref this, .int a1] κ ρ := by
  intro sz
  refine e_met l [.ref this, .int a1] (by decide +kernel) (Nat.le_of_ble_eq_true rfl) ?_
  intro p e s m args below meth c K hN hr hlk hnm hs
  generalize va_A (wE θ κ) sz = A at K ⊢
  have K : KE p s m args c c_Tokens_isSign 2 "ErrataRow$Tokens" y_Tokens_isSign (some .boolean) D θ A := K
  show JE p l e (rmA 1 0 0) s m args below meth c D θ A 2 0 0 (QEi below args s D θ A 0 0 ρ) κ [(0, .ref this), (1, .int a1)] [] 0
  unfold p_Tokens_isSign at h
  refine j_aload_n K 0 d_Tokens_isSign_0 rfl rfl ?_
  obtain ⟨q1, h⟩ := ck_e h
  refine eg_Tokens_kind K ef_Tokens_42 q1 d_Tokens_isSign_1 ?_
  refine j_iconst (v := 4) K d_Tokens_isSign_4 (by decide) ?_
  refine j_icmp_ne (tgt := 20) K d_Tokens_isSign_5 (by decide) (fun q => ?_) (fun q => ?_)
  · have h := if_f h q
    refine j_iconst (v := 0) K d_Tokens_isSign_20 (by decide) ?_
    exact eret_z K h rfl hr hlk d_Tokens_isSign_21
  · have h := if_t h q
    refine j_aload_n K 0 d_Tokens_isSign_8 rfl rfl ?_
    refine eg_Tokens_value K ef_Tokens_45 q1 d_Tokens_isSign_9 ?_
    refine j_iload_n K 1 d_Tokens_isSign_12 rfl rfl ?_
    refine j_icmp_ne (tgt := 20) K d_Tokens_isSign_13 (by decide) (fun q => ?_) (fun q => ?_)
    · have h := if_f h q
      refine j_iconst (v := 0) K d_Tokens_isSign_20 (by decide) ?_
      exact eret_z K h rfl hr hlk d_Tokens_isSign_21
    · have h := if_t h q
      refine j_iconst (v := 1) K d_Tokens_isSign_16 (by decide) ?_
      refine j_goto (tgt := 21) K d_Tokens_isSign_17 (by decide) ?_
      exact eret_z K h rfl hr hlk d_Tokens_isSign_21
def p_Tokens_goOn (N : Nat) (this : Nat) (κ : Cz) : Option (Cz) := ck (isK κ this 9) (if (fi κ this 7) = 0 then if (fi κ this 3) ≤ (fi κ this 4) + 1 then some κ else lt ((fi κ this 4) + 1) (fun v2 => lt (sfi this 4 v2 κ) (fun κ3 => bo (fr κ3 this 0) (fun o4 => lt (fi κ3 this 4) (fun v5 => ck (isK κ3 o4 20) (ck (inb v5 (ln κ3 o4)) (lt (ai κ3 o4 v5.toNatClampNeg) (fun v8 => lt (sfi this 5 v8 κ3) (fun κ9 => bo (fr κ9 this 1) (fun o10 => lt (fi κ9 this 4) (fun v11 => ck (isK κ9 o10 20) (ck (inb v11 (ln κ9 o10)) (lt (ai κ9 o10 v11.toNatClampNeg) (fun v14 => lt (sfi this 6 v14 κ9) (fun κ15 => some κ15)))))))))))))) else some κ)
set_option maxHeartbeats 4000000 in
set_option maxRecDepth 100000 in
theorem c_Tokens_goOn_ok (l : Launch) (D : va_G) (θ : Tc) (N : Nat) (this : Nat) (κ : Cz) (ρ : Cz) (h : p_Tokens_goOn N this κ = some ρ) : CEv l D θ y_Tokens_goOn c_Tokens_goOn 1 none 1 0 0 [.ref this] κ ρ := by
  intro sz
  refine e_met l [.ref this] (by decide +kernel) (Nat.le_of_ble_eq_true rfl) ?_
  intro p e s m args below meth c K hN hr hlk hnm hs
  generalize va_A (wE θ κ) sz = A at K ⊢
  have K : KE p s m args c c_Tokens_goOn 1 "ErrataRow$Tokens" y_Tokens_goOn none D θ A := K
  show JE p l e (rmA 1 0 0) s m args below meth c D θ A 1 0 0 (QEv below args s D θ A 0 0 ρ) κ [(0, .ref this)] [] 0
  unfold p_Tokens_goOn at h
  refine j_aload_n K 0 d_Tokens_goOn_0 rfl rfl ?_
  obtain ⟨q1, h⟩ := ck_e h
  refine eg_Tokens_fault K ef_Tokens_48 q1 d_Tokens_goOn_1 ?_
  refine j_if_ne (tgt := 56) K d_Tokens_goOn_4 (by decide) (fun q => ?_) (fun q => ?_)
  · have h := if_f h q
    exact eret_v K h hr hlk d_Tokens_goOn_56
  · have h := if_t h q
    refine j_aload_n K 0 d_Tokens_goOn_7 rfl rfl ?_
    refine eg_Tokens_at K ef_Tokens_39 q1 d_Tokens_goOn_8 ?_
    refine j_iconst (v := 1) K d_Tokens_goOn_11 (by decide) ?_
    refine j_iadd K d_Tokens_goOn_12 ?_
    refine j_aload_n K 0 d_Tokens_goOn_13 rfl rfl ?_
    refine eg_Tokens_size K ef_Tokens_21 q1 d_Tokens_goOn_14 ?_
    refine j_icmp_ge (tgt := 56) K d_Tokens_goOn_17 (by decide) (fun q => ?_) (fun q => ?_)
    · have h := if_t h q
      exact eret_v K h hr hlk d_Tokens_goOn_56
    · have h := if_f h q
      refine j_aload_n K 0 d_Tokens_goOn_20 rfl rfl ?_
      refine j_dup K d_Tokens_goOn_21 rfl ?_
      refine eg_Tokens_at K ef_Tokens_39 q1 d_Tokens_goOn_22 ?_
      refine j_iconst (v := 1) K d_Tokens_goOn_25 (by decide) ?_
      refine j_iadd K d_Tokens_goOn_26 ?_
      obtain ⟨v2, e2, h⟩ := lt_e h
      refine j_eqi e2 ?_
      obtain ⟨κ3, e3, h⟩ := lt_e h
      refine ep_Tokens_at K ef_Tokens_39 q1 d_Tokens_goOn_27 e3 ?_
      refine j_aload_n K 0 d_Tokens_goOn_30 rfl rfl ?_
      refine j_aload_n K 0 d_Tokens_goOn_31 rfl rfl ?_
      refine eg_Tokens_kinds K ef_Tokens_9 (isK_sfi e3 q1) d_Tokens_goOn_32 ?_
      obtain ⟨o4, e4, h⟩ := bo_e h
      refine j_eqq e4 ?_
      refine j_aload_n K 0 d_Tokens_goOn_35 rfl rfl ?_
      refine eg_Tokens_at K ef_Tokens_39 (isK_sfi e3 q1) d_Tokens_goOn_36 ?_
      obtain ⟨v5, e5, h⟩ := lt_e h
      refine j_eqi e5 ?_
      obtain ⟨q6, h⟩ := ck_e h
      obtain ⟨q7, h⟩ := ck_e h
      refine e_iald K q6 (inb_e q7) d_Tokens_goOn_39 ?_
      obtain ⟨v8, e8, h⟩ := lt_e h
      refine j_eqi e8 ?_
      obtain ⟨κ9, e9, h⟩ := lt_e h
      refine ep_Tokens_kind K ef_Tokens_42 (isK_sfi e3 q1) d_Tokens_goOn_40 e9 ?_
      refine j_aload_n K 0 d_Tokens_goOn_43 rfl rfl ?_
      refine j_aload_n K 0 d_Tokens_goOn_44 rfl rfl ?_
      refine eg_Tokens_values K ef_Tokens_15 (isK_sfi e9 (isK_sfi e3 q1)) d_Tokens_goOn_45 ?_
      obtain ⟨o10, e10, h⟩ := bo_e h
      refine j_eqq e10 ?_
      refine j_aload_n K 0 d_Tokens_goOn_48 rfl rfl ?_
      refine eg_Tokens_at K ef_Tokens_39 (isK_sfi e9 (isK_sfi e3 q1)) d_Tokens_goOn_49 ?_
      obtain ⟨v11, e11, h⟩ := lt_e h
      refine j_eqi e11 ?_
      obtain ⟨q12, h⟩ := ck_e h
      obtain ⟨q13, h⟩ := ck_e h
      refine e_iald K q12 (inb_e q13) d_Tokens_goOn_52 ?_
      obtain ⟨v14, e14, h⟩ := lt_e h
      refine j_eqi e14 ?_
      obtain ⟨κ15, e15, h⟩ := lt_e h
      refine ep_Tokens_value K ef_Tokens_45 (isK_sfi e9 (isK_sfi e3 q1)) d_Tokens_goOn_53 e15 ?_
      exact eret_v K h hr hlk d_Tokens_goOn_56
def p_Tokens_fail (N : Nat) (this : Nat) (a1 : Int32) (κ : Cz) : Option (Cz) := ck (isK κ this 9) (if (fi κ this 7) = 0 then bo (fr κ this 2) (fun o2 => lt (fi κ this 4) (fun v3 => ck (isK κ o2 20) (ck (inb v3 (ln κ o2)) (lt ((1 + (8 * (ai κ o2 v3.toNatClampNeg))) + a1) (fun v6 => lt (sfi this 7 v6 κ) (fun κ7 => lt (sfi this 5 5 κ7) (fun κ8 => some κ8))))))) else some κ)
set_option maxHeartbeats 4000000 in
set_option maxRecDepth 100000 in
theorem c_Tokens_fail_ok (l : Launch) (D : va_G) (θ : Tc) (N : Nat) (this : Nat) (a1 : Int32) (κ : Cz) (ρ : Cz) (h : p_Tokens_fail N this a1 κ = some ρ) : CEv l D θ y_Tokens_fail c_Tokens_fail 2 none 1 0 0 [.ref this, .int a1] κ ρ := by
  intro sz
  refine e_met l [.ref this, .int a1] (by decide +kernel) (Nat.le_of_ble_eq_true rfl) ?_
  intro p e s m args below meth c K hN hr hlk hnm hs
  generalize va_A (wE θ κ) sz = A at K ⊢
  have K : KE p s m args c c_Tokens_fail 2 "ErrataRow$Tokens" y_Tokens_fail none D θ A := K
  show JE p l e (rmA 1 0 0) s m args below meth c D θ A 2 0 0 (QEv below args s D θ A 0 0 ρ) κ [(0, .ref this), (1, .int a1)] [] 0
  unfold p_Tokens_fail at h
  refine j_aload_n K 0 d_Tokens_fail_0 rfl rfl ?_
  obtain ⟨q1, h⟩ := ck_e h
  refine eg_Tokens_fault K ef_Tokens_48 q1 d_Tokens_fail_1 ?_
  refine j_if_ne (tgt := 32) K d_Tokens_fail_4 (by decide) (fun q => ?_) (fun q => ?_)
  · have h := if_f h q
    exact eret_v K h hr hlk d_Tokens_fail_32
  · have h := if_t h q
    refine j_aload_n K 0 d_Tokens_fail_7 rfl rfl ?_
    refine j_iconst (v := 1) K d_Tokens_fail_8 (by decide) ?_
    refine j_bipush (v := 8) K d_Tokens_fail_9 (by decide) ?_
    refine j_aload_n K 0 d_Tokens_fail_11 rfl rfl ?_
    refine eg_Tokens_places K ef_Tokens_18 q1 d_Tokens_fail_12 ?_
    obtain ⟨o2, e2, h⟩ := bo_e h
    refine j_eqq e2 ?_
    refine j_aload_n K 0 d_Tokens_fail_15 rfl rfl ?_
    refine eg_Tokens_at K ef_Tokens_39 q1 d_Tokens_fail_16 ?_
    obtain ⟨v3, e3, h⟩ := lt_e h
    refine j_eqi e3 ?_
    obtain ⟨q4, h⟩ := ck_e h
    obtain ⟨q5, h⟩ := ck_e h
    refine e_iald K q4 (inb_e q5) d_Tokens_fail_19 ?_
    refine j_imul K d_Tokens_fail_20 ?_
    refine j_iadd K d_Tokens_fail_21 ?_
    refine j_iload_n K 1 d_Tokens_fail_22 rfl rfl ?_
    refine j_iadd K d_Tokens_fail_23 ?_
    obtain ⟨v6, e6, h⟩ := lt_e h
    refine j_eqi e6 ?_
    obtain ⟨κ7, e7, h⟩ := lt_e h
    refine ep_Tokens_fault K ef_Tokens_48 q1 d_Tokens_fail_24 e7 ?_
    refine j_aload_n K 0 d_Tokens_fail_27 rfl rfl ?_
    refine j_iconst (v := 5) K d_Tokens_fail_28 (by decide) ?_
    obtain ⟨κ8, e8, h⟩ := lt_e h
    refine ep_Tokens_kind K ef_Tokens_42 (isK_sfi e7 q1) d_Tokens_fail_29 e8 ?_
    exact eret_v K h hr hlk d_Tokens_fail_32
def b_ErrataRow_putBytes_3 (N : Nat) : Nat → Nat → Int32 → Int32 → Cz → Option (Cz)
  | 0, _, _, _, _ => none
  | n + 1, x0, x1, x2, κ => if x2 < 0 then some κ else ck (isK κ x0 11) (if 400 ≤ (fi κ x0 1) then some κ else bo (fr κ x0 0) (fun o2 => lt (((x1.toUInt32 >>> (x2.toUInt32 &&& Int32.toUInt32 31)).toInt32) &&& 255) (fun v3 => ck (isK κ o2 20) (ck (inb (fi κ x0 1) (ln κ o2)) (lt (sai o2 (upd (ai κ o2) (fi κ x0 1).toNatClampNeg v3) κ) (fun κ6 => lt ((fi κ6 x0 1) + 1) (fun v7 => lt (sfi x0 1 v7 κ6) (fun κ8 => lt (x2 + (-8)) (fun v9 => b_ErrataRow_putBytes_3 N n x0 x1 v9 κ8)))))))))
set_option maxHeartbeats 4000000 in
set_option maxRecDepth 100000 in
theorem t_ErrataRow_putBytes_3 {p : Program} {l : Launch} {e : Env} {s : State} {m : MethodId} {args : Array Value} {below : List Frame} {meth : Method} {c : Code} {D : va_G} {θ : Tc} {A : Nat → Prop} (K : KE p s m args c c_ErrataRow_putBytes 3 "ErrataRow" y_ErrataRow_putBytes none D θ A) (hN : NX s) (hr : meth.sig.returnType = none) (hlk : meth.locks = false) (N : Nat) (ρ : Cz) : ∀ (n : Nat) (x0 : Nat) (x1 : Int32) (x2 : Int32) (κ : Cz), b_ErrataRow_putBytes_3 N n x0 x1 x2 κ = some ρ → JE p l e (rmA 1 0 0) s m args below meth c D θ A 3 0 0 (QEv below args s D θ A 0 0 ρ) κ [(0, .ref x0), (1, .int x1), (2, .int x2)] [] 3 := by
  intro n
  induction n with
  | zero =>
    intro x0 x1 x2 κ h
    exact absurd h (by simp [b_ErrataRow_putBytes_3])
  | succ n ih =>
    intro x0 x1 x2 κ h
    rw [b_ErrataRow_putBytes_3] at h
    refine j_iload_n K 2 d_ErrataRow_putBytes_3 rfl rfl ?_
    refine j_if_lt (tgt := 49) K d_ErrataRow_putBytes_4 (by decide) (fun q => ?_) (fun q => ?_)
    · have h := if_t h q
      exact eret_v K h hr hlk d_ErrataRow_putBytes_49
    · have h := if_f h q
      refine j_aload_n K 0 d_ErrataRow_putBytes_7 rfl rfl ?_
      obtain ⟨q1, h⟩ := ck_e h
      refine eg_ErrataRow_tapeLength K ef_ErrataRow_98 q1 d_ErrataRow_putBytes_8 ?_
      refine j_sipush (v := 400) K d_ErrataRow_putBytes_11 (by decide) ?_
      refine j_icmp_ge (tgt := 49) K d_ErrataRow_putBytes_14 (by decide) (fun q => ?_) (fun q => ?_)
      · have h := if_t h q
        exact eret_v K h hr hlk d_ErrataRow_putBytes_49
      · have h := if_f h q
        refine j_aload_n K 0 d_ErrataRow_putBytes_17 rfl rfl ?_
        refine eg_ErrataRow_tape K ef_ErrataRow_9 q1 d_ErrataRow_putBytes_18 ?_
        obtain ⟨o2, e2, h⟩ := bo_e h
        refine j_eqq e2 ?_
        refine j_aload_n K 0 d_ErrataRow_putBytes_21 rfl rfl ?_
        refine eg_ErrataRow_tapeLength K ef_ErrataRow_98 q1 d_ErrataRow_putBytes_22 ?_
        refine j_iload_n K 1 d_ErrataRow_putBytes_25 rfl rfl ?_
        refine j_iload_n K 2 d_ErrataRow_putBytes_26 rfl rfl ?_
        refine j_iushr K d_ErrataRow_putBytes_27 ?_
        refine j_sipush (v := 255) K d_ErrataRow_putBytes_28 (by decide) ?_
        refine j_iand K d_ErrataRow_putBytes_31 ?_
        obtain ⟨v3, e3, h⟩ := lt_e h
        refine j_eqi e3 ?_
        obtain ⟨q4, h⟩ := ck_e h
        obtain ⟨q5, h⟩ := ck_e h
        obtain ⟨κ6, e6, h⟩ := lt_e h
        refine e_iast K q4 (inb_e q5) d_ErrataRow_putBytes_32 e6 ?_
        refine j_aload_n K 0 d_ErrataRow_putBytes_33 rfl rfl ?_
        refine j_dup K d_ErrataRow_putBytes_34 rfl ?_
        refine eg_ErrataRow_tapeLength K ef_ErrataRow_98 (isK_sai e6 q1) d_ErrataRow_putBytes_35 ?_
        refine j_iconst (v := 1) K d_ErrataRow_putBytes_38 (by decide) ?_
        refine j_iadd K d_ErrataRow_putBytes_39 ?_
        obtain ⟨v7, e7, h⟩ := lt_e h
        refine j_eqi e7 ?_
        obtain ⟨κ8, e8, h⟩ := lt_e h
        refine ep_ErrataRow_tapeLength K ef_ErrataRow_98 (isK_sai e6 q1) d_ErrataRow_putBytes_40 e8 ?_
        obtain ⟨v9, e9, h⟩ := lt_e h
        refine j_iinc (k := 2) (v := v9) (lv' := [(2, .int v9), (0, .ref x0), (1, .int x1)]) K d_ErrataRow_putBytes_43 rfl (by rw [e9]; rfl) (by decide) rfl ?_
        refine j_goto (tgt := 3) K d_ErrataRow_putBytes_46 (by decide) ?_
        refine j_sub [1, 2, 0] rfl ?_
        exact ih x0 x1 v9 κ8 h
def p_ErrataRow_putBytes (N : Nat) (this : Nat) (a1 : Int32) (κ : Cz) : Option (Cz) := b_ErrataRow_putBytes_3 N N this a1 24 κ
set_option maxHeartbeats 4000000 in
set_option maxRecDepth 100000 in
theorem c_ErrataRow_putBytes_ok (l : Launch) (D : va_G) (θ : Tc) (N : Nat) (this : Nat) (a1 : Int32) (κ : Cz) (ρ : Cz) (h : p_ErrataRow_putBytes N this a1 κ = some ρ) : CEv l D θ y_ErrataRow_putBytes c_ErrataRow_putBytes 3 none 1 0 0 [.ref this, .int a1] κ ρ := by
  intro sz
  refine e_met l [.ref this, .int a1] (by decide +kernel) (Nat.le_of_ble_eq_true rfl) ?_
  intro p e s m args below meth c K hN hr hlk hnm hs
  generalize va_A (wE θ κ) sz = A at K ⊢
  have K : KE p s m args c c_ErrataRow_putBytes 3 "ErrataRow" y_ErrataRow_putBytes none D θ A := K
  show JE p l e (rmA 1 0 0) s m args below meth c D θ A 3 0 0 (QEv below args s D θ A 0 0 ρ) κ [(0, .ref this), (1, .int a1)] [] 0
  unfold p_ErrataRow_putBytes at h
  refine j_bipush (v := 24) K d_ErrataRow_putBytes_0 (by decide) ?_
  refine j_istore_n (lv' := [(2, .int 24), (0, .ref this), (1, .int a1)]) K d_ErrataRow_putBytes_2 rfl (by decide) rfl ?_
  refine j_sub [1, 2, 0] rfl ?_
  exact t_ErrataRow_putBytes_3 K hN hr hlk N ρ N this a1 24 κ h
def p_ErrataRow_end (N : Nat) (this : Nat) (a1 : Int32) (κ : Cz) : Option (Int32 × Cz) := if a1 < 0 then some ((-1), κ) else ck (isK κ this 11) (if a1 ≤ (fi κ this 1) then lt (sfi this 1 a1 κ) (fun κ2 => some (a1, κ2)) else some ((-1), κ))
set_option maxHeartbeats 4000000 in
set_option maxRecDepth 100000 in
theorem c_ErrataRow_end_ok (l : Launch) (D : va_G) (θ : Tc) (N : Nat) (this : Nat) (a1 : Int32) (κ : Cz) (ρ : Int32 × Cz) (h : p_ErrataRow_end N this a1 κ = some ρ) : CEi l D θ y_ErrataRow_end c_ErrataRow_end 2 (some .int) 1 0 0 [.ref this, .int a1] κ ρ := by
  intro sz
  refine e_met l [.ref this, .int a1] (by decide +kernel) (Nat.le_of_ble_eq_true rfl) ?_
  intro p e s m args below meth c K hN hr hlk hnm hs
  generalize va_A (wE θ κ) sz = A at K ⊢
  have K : KE p s m args c c_ErrataRow_end 2 "ErrataRow" y_ErrataRow_end (some .int) D θ A := K
  show JE p l e (rmA 1 0 0) s m args below meth c D θ A 2 0 0 (QEi below args s D θ A 0 0 ρ) κ [(0, .ref this), (1, .int a1)] [] 0
  unfold p_ErrataRow_end at h
  refine j_iload_n K 1 d_ErrataRow_end_0 rfl rfl ?_
  refine j_if_lt (tgt := 12) K d_ErrataRow_end_1 (by decide) (fun q => ?_) (fun q => ?_)
  · have h := if_t h q
    refine j_iconst (v := (-1)) K d_ErrataRow_end_12 (by decide) ?_
    exact eret_i K h hr hlk d_ErrataRow_end_13
  · have h := if_f h q
    refine j_iload_n K 1 d_ErrataRow_end_4 rfl rfl ?_
    refine j_aload_n K 0 d_ErrataRow_end_5 rfl rfl ?_
    obtain ⟨q1, h⟩ := ck_e h
    refine eg_ErrataRow_tapeLength K ef_ErrataRow_98 q1 d_ErrataRow_end_6 ?_
    refine j_icmp_le (tgt := 14) K d_ErrataRow_end_9 (by decide) (fun q => ?_) (fun q => ?_)
    · have h := if_t h q
      refine j_aload_n K 0 d_ErrataRow_end_14 rfl rfl ?_
      refine j_iload_n K 1 d_ErrataRow_end_15 rfl rfl ?_
      obtain ⟨κ2, e2, h⟩ := lt_e h
      refine ep_ErrataRow_tapeLength K ef_ErrataRow_98 q1 d_ErrataRow_end_16 e2 ?_
      refine j_iload_n K 1 d_ErrataRow_end_19 rfl rfl ?_
      exact eret_i K h hr hlk d_ErrataRow_end_20
    · have h := if_f h q
      refine j_iconst (v := (-1)) K d_ErrataRow_end_12 (by decide) ?_
      exact eret_i K h hr hlk d_ErrataRow_end_13
def p_ErrataRow_force (N : Nat) (this : Nat) (a1 : Int32) (κ : Cz) : Option (Int32 × Cz) := if a1 < (-1) then some ((-2), κ) else ck (isK κ this 11) (if a1 < (fi κ this 6) then bo (fr κ this 7) (fun o2 => ck (isK κ o2 10) (lt (fi κ o2 3) (fun v4 => bo (fr κ this 7) (fun o5 => ck (isK κ o5 10) (lt (sfi o5 3 a1 κ) (fun κ7 => some (v4, κ7))))))) else some ((-2), κ))
set_option maxHeartbeats 4000000 in
set_option maxRecDepth 100000 in
theorem c_ErrataRow_force_ok (l : Launch) (D : va_G) (θ : Tc) (N : Nat) (this : Nat) (a1 : Int32) (κ : Cz) (ρ : Int32 × Cz) (h : p_ErrataRow_force N this a1 κ = some ρ) : CEi l D θ y_ErrataRow_force c_ErrataRow_force 3 (some .int) 1 0 0 [.ref this, .int a1] κ ρ := by
  intro sz
  refine e_met l [.ref this, .int a1] (by decide +kernel) (Nat.le_of_ble_eq_true rfl) ?_
  intro p e s m args below meth c K hN hr hlk hnm hs
  generalize va_A (wE θ κ) sz = A at K ⊢
  have K : KE p s m args c c_ErrataRow_force 3 "ErrataRow" y_ErrataRow_force (some .int) D θ A := K
  show JE p l e (rmA 1 0 0) s m args below meth c D θ A 3 0 0 (QEi below args s D θ A 0 0 ρ) κ [(0, .ref this), (1, .int a1)] [] 0
  unfold p_ErrataRow_force at h
  refine j_iload_n K 1 d_ErrataRow_force_0 rfl rfl ?_
  refine j_iconst (v := (-1)) K d_ErrataRow_force_1 (by decide) ?_
  refine j_icmp_lt (tgt := 13) K d_ErrataRow_force_2 (by decide) (fun q => ?_) (fun q => ?_)
  · have h := if_t h q
    refine j_bipush (v := (-2)) K d_ErrataRow_force_13 (by decide) ?_
    exact eret_i K h hr hlk d_ErrataRow_force_15
  · have h := if_f h q
    refine j_iload_n K 1 d_ErrataRow_force_5 rfl rfl ?_
    refine j_aload_n K 0 d_ErrataRow_force_6 rfl rfl ?_
    obtain ⟨q1, h⟩ := ck_e h
    refine eg_ErrataRow_ruleCount K ef_ErrataRow_128 q1 d_ErrataRow_force_7 ?_
    refine j_icmp_lt (tgt := 16) K d_ErrataRow_force_10 (by decide) (fun q => ?_) (fun q => ?_)
    · have h := if_t h q
      refine j_aload_n K 0 d_ErrataRow_force_16 rfl rfl ?_
      refine eg_ErrataRow_world K ef_ErrataRow_45 q1 d_ErrataRow_force_17 ?_
      obtain ⟨o2, e2, h⟩ := bo_e h
      refine j_eqq e2 ?_
      obtain ⟨q3, h⟩ := ck_e h
      refine eg_World_inForce K ef_ErrataRow_138 q3 d_ErrataRow_force_20 ?_
      obtain ⟨v4, e4, h⟩ := lt_e h
      refine j_eqi e4 ?_
      refine j_istore_n (lv' := [(2, .int v4), (0, .ref this), (1, .int a1)]) K d_ErrataRow_force_23 rfl (by decide) rfl ?_
      refine j_aload_n K 1 d_ErrataRow_force_24 rfl rfl ?_
      refine eg_ErrataRow_world K ef_ErrataRow_45 q1 d_ErrataRow_force_25 ?_
      obtain ⟨o5, e5, h⟩ := bo_e h
      refine j_eqq e5 ?_
      refine j_iload_n K 2 d_ErrataRow_force_28 rfl rfl ?_
      obtain ⟨q6, h⟩ := ck_e h
      obtain ⟨κ7, e7, h⟩ := lt_e h
      refine ep_World_inForce K ef_ErrataRow_138 q6 d_ErrataRow_force_29 e7 ?_
      refine j_iload_n K 0 d_ErrataRow_force_32 rfl rfl ?_
      exact eret_i K h hr hlk d_ErrataRow_force_33
    · have h := if_f h q
      refine j_bipush (v := (-2)) K d_ErrataRow_force_13 (by decide) ?_
      exact eret_i K h hr hlk d_ErrataRow_force_15
def p_ErrataRow_ruleOf (N : Nat) (this : Nat) (a1 : Int32) (κ : Cz) : Option (Option Nat × Cz) := if a1 < 0 then some (none, κ) else ck (isK κ this 11) (if (fi κ this 6) ≤ a1 then some (none, κ) else bo (fr κ this 5) (fun o2 => ck (isK κ o2 22) (ck (inb a1 (ln κ o2)) (oc (aq κ o2 a1.toNatClampNeg) (some (none, κ)) (fun o5 => some (some o5, κ))))))
set_option maxHeartbeats 4000000 in
set_option maxRecDepth 100000 in
theorem c_ErrataRow_ruleOf_ok (l : Launch) (D : va_G) (θ : Tc) (N : Nat) (this : Nat) (a1 : Int32) (κ : Cz) (ρ : Option Nat × Cz) (h : p_ErrataRow_ruleOf N this a1 κ = some ρ) : CEq l D θ y_ErrataRow_ruleOf c_ErrataRow_ruleOf 2 (some (.object "ErrataRow$Rule")) 1 0 0 [.ref this, .int a1] κ ρ := by
  intro sz
  refine e_met l [.ref this, .int a1] (by decide +kernel) (Nat.le_of_ble_eq_true rfl) ?_
  intro p e s m args below meth c K hN hr hlk hnm hs
  generalize va_A (wE θ κ) sz = A at K ⊢
  have K : KE p s m args c c_ErrataRow_ruleOf 2 "ErrataRow" y_ErrataRow_ruleOf (some (.object "ErrataRow$Rule")) D θ A := K
  show JE p l e (rmA 1 0 0) s m args below meth c D θ A 2 0 0 (QEq below args s D θ A 0 0 ρ) κ [(0, .ref this), (1, .int a1)] [] 0
  unfold p_ErrataRow_ruleOf at h
  refine j_iload_n K 1 d_ErrataRow_ruleOf_0 rfl rfl ?_
  refine j_if_lt (tgt := 21) K d_ErrataRow_ruleOf_1 (by decide) (fun q => ?_) (fun q => ?_)
  · have h := if_t h q
    refine j_null K d_ErrataRow_ruleOf_21 ?_
    exact eret_q K (v := none) rfl h hr hlk d_ErrataRow_ruleOf_22
  · have h := if_f h q
    refine j_iload_n K 1 d_ErrataRow_ruleOf_4 rfl rfl ?_
    refine j_aload_n K 0 d_ErrataRow_ruleOf_5 rfl rfl ?_
    obtain ⟨q1, h⟩ := ck_e h
    refine eg_ErrataRow_ruleCount K ef_ErrataRow_128 q1 d_ErrataRow_ruleOf_6 ?_
    refine j_icmp_ge (tgt := 21) K d_ErrataRow_ruleOf_9 (by decide) (fun q => ?_) (fun q => ?_)
    · have h := if_t h q
      refine j_null K d_ErrataRow_ruleOf_21 ?_
      exact eret_q K (v := none) rfl h hr hlk d_ErrataRow_ruleOf_22
    · have h := if_f h q
      refine j_aload_n K 0 d_ErrataRow_ruleOf_12 rfl rfl ?_
      refine eg_ErrataRow_rules K ef_ErrataRow_38 q1 d_ErrataRow_ruleOf_13 ?_
      obtain ⟨o2, e2, h⟩ := bo_e h
      refine j_eqq e2 ?_
      refine j_iload_n K 1 d_ErrataRow_ruleOf_16 rfl rfl ?_
      obtain ⟨q3, h⟩ := ck_e h
      obtain ⟨q4, h⟩ := ck_e h
      refine e_ald_Rule K q3 (inb_e q4) d_ErrataRow_ruleOf_17 ?_
      rcases oc_e h with ⟨e5, h⟩ | ⟨o5, e5, h⟩
      · refine j_eqn e5 ?_
        refine j_goto (tgt := 22) K d_ErrataRow_ruleOf_18 (by decide) ?_
        exact eret_q K (v := none) rfl h hr hlk d_ErrataRow_ruleOf_22
      · refine j_eqq e5 ?_
        refine j_goto (tgt := 22) K d_ErrataRow_ruleOf_18 (by decide) ?_
        exact eret_q K (v := some o5) rfl h hr hlk d_ErrataRow_ruleOf_22
def p_ErrataRow_isLetter (N : Nat) (this : Nat) (a1 : Int32) (κ : Cz) : Option (Int32 × Cz) := if a1 < 0 then some (0, κ) else ck (isK κ this 11) (bo (fr κ this 7) (fun o2 => ck (isK κ o2 10) (bo (fr κ o2 0) (fun o4 => ck (isK κ o4 0) (if (fi κ o4 2) ≤ a1 then some (0, κ) else some (1, κ))))))
set_option maxHeartbeats 4000000 in
set_option maxRecDepth 100000 in
theorem c_ErrataRow_isLetter_ok (l : Launch) (D : va_G) (θ : Tc) (N : Nat) (this : Nat) (a1 : Int32) (κ : Cz) (ρ : Int32 × Cz) (h : p_ErrataRow_isLetter N this a1 κ = some ρ) : CEi l D θ y_ErrataRow_isLetter c_ErrataRow_isLetter 2 (some .boolean) 1 0 0 [.ref this, .int a1] κ ρ := by
  intro sz
  refine e_met l [.ref this, .int a1] (by decide +kernel) (Nat.le_of_ble_eq_true rfl) ?_
  intro p e s m args below meth c K hN hr hlk hnm hs
  generalize va_A (wE θ κ) sz = A at K ⊢
  have K : KE p s m args c c_ErrataRow_isLetter 2 "ErrataRow" y_ErrataRow_isLetter (some .boolean) D θ A := K
  show JE p l e (rmA 1 0 0) s m args below meth c D θ A 2 0 0 (QEi below args s D θ A 0 0 ρ) κ [(0, .ref this), (1, .int a1)] [] 0
  unfold p_ErrataRow_isLetter at h
  refine j_iload_n K 1 d_ErrataRow_isLetter_0 rfl rfl ?_
  refine j_if_lt (tgt := 22) K d_ErrataRow_isLetter_1 (by decide) (fun q => ?_) (fun q => ?_)
  · have h := if_t h q
    refine j_iconst (v := 0) K d_ErrataRow_isLetter_22 (by decide) ?_
    exact eret_z K h rfl hr hlk d_ErrataRow_isLetter_23
  · have h := if_f h q
    refine j_iload_n K 1 d_ErrataRow_isLetter_4 rfl rfl ?_
    refine j_aload_n K 0 d_ErrataRow_isLetter_5 rfl rfl ?_
    obtain ⟨q1, h⟩ := ck_e h
    refine eg_ErrataRow_world K ef_ErrataRow_45 q1 d_ErrataRow_isLetter_6 ?_
    obtain ⟨o2, e2, h⟩ := bo_e h
    refine j_eqq e2 ?_
    obtain ⟨q3, h⟩ := ck_e h
    refine eg_World_book K ef_ErrataRow_62 q3 d_ErrataRow_isLetter_9 ?_
    obtain ⟨o4, e4, h⟩ := bo_e h
    refine j_eqq e4 ?_
    obtain ⟨q5, h⟩ := ck_e h
    refine eg_Book_letters K ef_ErrataRow_123 q5 d_ErrataRow_isLetter_12 ?_
    refine j_icmp_ge (tgt := 22) K d_ErrataRow_isLetter_15 (by decide) (fun q => ?_) (fun q => ?_)
    · have h := if_t h q
      refine j_iconst (v := 0) K d_ErrataRow_isLetter_22 (by decide) ?_
      exact eret_z K h rfl hr hlk d_ErrataRow_isLetter_23
    · have h := if_f h q
      refine j_iconst (v := 1) K d_ErrataRow_isLetter_18 (by decide) ?_
      refine j_goto (tgt := 23) K d_ErrataRow_isLetter_19 (by decide) ?_
      exact eret_z K h rfl hr hlk d_ErrataRow_isLetter_23
def p_ErrataRow_isPut (N : Nat) (a1 : Int32) (κ : Cz) : Option (Int32 × Cz) := if a1 < 0 then some (0, κ) else if 8 ≤ a1 then some (0, κ) else some (1, κ)
set_option maxHeartbeats 4000000 in
set_option maxRecDepth 100000 in
theorem c_ErrataRow_isPut_ok (l : Launch) (D : va_G) (θ : Tc) (N : Nat) (a1 : Int32) (κ : Cz) (ρ : Int32 × Cz) (h : p_ErrataRow_isPut N a1 κ = some ρ) : CEi l D θ y_ErrataRow_isPut c_ErrataRow_isPut 1 (some .boolean) 1 0 0 [.int a1] κ ρ := by
  intro sz
  refine e_met l [.int a1] (by decide +kernel) (Nat.le_of_ble_eq_true rfl) ?_
  intro p e s m args below meth c K hN hr hlk hnm hs
  generalize va_A (wE θ κ) sz = A at K ⊢
  have K : KE p s m args c c_ErrataRow_isPut 1 "ErrataRow" y_ErrataRow_isPut (some .boolean) D θ A := K
  show JE p l e (rmA 1 0 0) s m args below meth c D θ A 1 0 0 (QEi below args s D θ A 0 0 ρ) κ [(0, .int a1)] [] 0
  unfold p_ErrataRow_isPut at h
  refine j_iload_n K 0 d_ErrataRow_isPut_0 rfl rfl ?_
  refine j_if_lt (tgt := 14) K d_ErrataRow_isPut_1 (by decide) (fun q => ?_) (fun q => ?_)
  · have h := if_t h q
    refine j_iconst (v := 0) K d_ErrataRow_isPut_14 (by decide) ?_
    exact eret_z K h rfl hr hlk d_ErrataRow_isPut_15
  · have h := if_f h q
    refine j_iload_n K 0 d_ErrataRow_isPut_4 rfl rfl ?_
    refine j_bipush (v := 8) K d_ErrataRow_isPut_5 (by decide) ?_
    refine j_icmp_ge (tgt := 14) K d_ErrataRow_isPut_7 (by decide) (fun q => ?_) (fun q => ?_)
    · have h := if_t h q
      refine j_iconst (v := 0) K d_ErrataRow_isPut_14 (by decide) ?_
      exact eret_z K h rfl hr hlk d_ErrataRow_isPut_15
    · have h := if_f h q
      refine j_iconst (v := 1) K d_ErrataRow_isPut_10 (by decide) ?_
      refine j_goto (tgt := 15) K d_ErrataRow_isPut_11 (by decide) ?_
      exact eret_z K h rfl hr hlk d_ErrataRow_isPut_15
def p_ErrataRow_within (N : Nat) (a1 : Int32) (a2 : Int32) (a3 : Int32) (κ : Cz) : Option (Int32 × Cz) := if a1 < a2 then some (0, κ) else if a3 < a1 then some (0, κ) else some (1, κ)
set_option maxHeartbeats 4000000 in
set_option maxRecDepth 100000 in
theorem c_ErrataRow_within_ok (l : Launch) (D : va_G) (θ : Tc) (N : Nat) (a1 : Int32) (a2 : Int32) (a3 : Int32) (κ : Cz) (ρ : Int32 × Cz) (h : p_ErrataRow_within N a1 a2 a3 κ = some ρ) : CEi l D θ y_ErrataRow_within c_ErrataRow_within 3 (some .boolean) 1 0 0 [.int a1, .int a2, .int a3] κ ρ := by
  intro sz
  refine e_met l [.int a1, .int a2, .int a3] (by decide +kernel) (Nat.le_of_ble_eq_true rfl) ?_
  intro p e s m args below meth c K hN hr hlk hnm hs
  generalize va_A (wE θ κ) sz = A at K ⊢
  have K : KE p s m args c c_ErrataRow_within 3 "ErrataRow" y_ErrataRow_within (some .boolean) D θ A := K
  show JE p l e (rmA 1 0 0) s m args below meth c D θ A 3 0 0 (QEi below args s D θ A 0 0 ρ) κ [(0, .int a1), (1, .int a2), (2, .int a3)] [] 0
  unfold p_ErrataRow_within at h
  refine j_iload_n K 0 d_ErrataRow_within_0 rfl rfl ?_
  refine j_iload_n K 1 d_ErrataRow_within_1 rfl rfl ?_
  refine j_icmp_lt (tgt := 14) K d_ErrataRow_within_2 (by decide) (fun q => ?_) (fun q => ?_)
  · have h := if_t h q
    refine j_iconst (v := 0) K d_ErrataRow_within_14 (by decide) ?_
    exact eret_z K h rfl hr hlk d_ErrataRow_within_15
  · have h := if_f h q
    refine j_iload_n K 0 d_ErrataRow_within_5 rfl rfl ?_
    refine j_iload_n K 2 d_ErrataRow_within_6 rfl rfl ?_
    refine j_icmp_gt (tgt := 14) K d_ErrataRow_within_7 (by decide) (fun q => ?_) (fun q => ?_)
    · have h := if_t h q
      refine j_iconst (v := 0) K d_ErrataRow_within_14 (by decide) ?_
      exact eret_z K h rfl hr hlk d_ErrataRow_within_15
    · have h := if_f h q
      refine j_iconst (v := 1) K d_ErrataRow_within_10 (by decide) ?_
      refine j_goto (tgt := 15) K d_ErrataRow_within_11 (by decide) ?_
      exact eret_z K h rfl hr hlk d_ErrataRow_within_15
def p_ErrataRow_hasBit (N : Nat) (a1 : Int32) (a2 : Int32) (κ : Cz) : Option (Int32 × Cz) := if (((a1.toUInt32 >>> (a2.toUInt32 &&& Int32.toUInt32 31)).toInt32) &&& 1) = 0 then some (0, κ) else some (1, κ)
set_option maxHeartbeats 4000000 in
set_option maxRecDepth 100000 in
theorem c_ErrataRow_hasBit_ok (l : Launch) (D : va_G) (θ : Tc) (N : Nat) (a1 : Int32) (a2 : Int32) (κ : Cz) (ρ : Int32 × Cz) (h : p_ErrataRow_hasBit N a1 a2 κ = some ρ) : CEi l D θ y_ErrataRow_hasBit c_ErrataRow_hasBit 2 (some .boolean) 1 0 0 [.int a1, .int a2] κ ρ := by
  intro sz
  refine e_met l [.int a1, .int a2] (by decide +kernel) (Nat.le_of_ble_eq_true rfl) ?_
  intro p e s m args below meth c K hN hr hlk hnm hs
  generalize va_A (wE θ κ) sz = A at K ⊢
  have K : KE p s m args c c_ErrataRow_hasBit 2 "ErrataRow" y_ErrataRow_hasBit (some .boolean) D θ A := K
  show JE p l e (rmA 1 0 0) s m args below meth c D θ A 2 0 0 (QEi below args s D θ A 0 0 ρ) κ [(0, .int a1), (1, .int a2)] [] 0
  unfold p_ErrataRow_hasBit at h
  refine j_iload_n K 0 d_ErrataRow_hasBit_0 rfl rfl ?_
  refine j_iload_n K 1 d_ErrataRow_hasBit_1 rfl rfl ?_
  refine j_iushr K d_ErrataRow_hasBit_2 ?_
  refine j_iconst (v := 1) K d_ErrataRow_hasBit_3 (by decide) ?_
  refine j_iand K d_ErrataRow_hasBit_4 ?_
  refine j_if_eq (tgt := 12) K d_ErrataRow_hasBit_5 (by decide) (fun q => ?_) (fun q => ?_)
  · have h := if_t h q
    refine j_iconst (v := 0) K d_ErrataRow_hasBit_12 (by decide) ?_
    exact eret_z K h rfl hr hlk d_ErrataRow_hasBit_13
  · have h := if_f h q
    refine j_iconst (v := 1) K d_ErrataRow_hasBit_8 (by decide) ?_
    refine j_goto (tgt := 13) K d_ErrataRow_hasBit_9 (by decide) ?_
    exact eret_z K h rfl hr hlk d_ErrataRow_hasBit_13
def b_ErrataRow_packed_4 (N : Nat) : Nat → Nat → Int32 → Int32 → Cz → Option (Int32 × Cz)
  | 0, _, _, _, _ => none
  | n + 1, x0, x1, x2, κ => ck (isK κ x0 20) (if (nI (ln κ x0)) ≤ x2 then some (x1, κ) else ck (inb x2 (ln κ x0)) (lt ((x1 <<< (3 &&& 31)) ||| (ai κ x0 x2.toNatClampNeg)) (fun v3 => lt (x2 + 1) (fun v4 => b_ErrataRow_packed_4 N n x0 v3 v4 κ))))
set_option maxHeartbeats 4000000 in
set_option maxRecDepth 100000 in
theorem t_ErrataRow_packed_4 {p : Program} {l : Launch} {e : Env} {s : State} {m : MethodId} {args : Array Value} {below : List Frame} {meth : Method} {c : Code} {D : va_G} {θ : Tc} {A : Nat → Prop} (K : KE p s m args c c_ErrataRow_packed 3 "ErrataRow" y_ErrataRow_packed (some .int) D θ A) (hN : NX s) (hr : meth.sig.returnType = (some .int)) (hlk : meth.locks = false) (N : Nat) (ρ : Int32 × Cz) : ∀ (n : Nat) (x0 : Nat) (x1 : Int32) (x2 : Int32) (κ : Cz), b_ErrataRow_packed_4 N n x0 x1 x2 κ = some ρ → JE p l e (rmA 1 0 0) s m args below meth c D θ A 3 0 0 (QEi below args s D θ A 0 0 ρ) κ [(0, .ref x0), (1, .int x1), (2, .int x2)] [] 4 := by
  intro n
  induction n with
  | zero =>
    intro x0 x1 x2 κ h
    exact absurd h (by simp [b_ErrataRow_packed_4])
  | succ n ih =>
    intro x0 x1 x2 κ h
    rw [b_ErrataRow_packed_4] at h
    refine j_iload_n K 2 d_ErrataRow_packed_4 rfl rfl ?_
    refine j_aload_n K 0 d_ErrataRow_packed_5 rfl rfl ?_
    obtain ⟨q1, h⟩ := ck_e h
    refine e_alen K q1 d_ErrataRow_packed_6 ?_
    refine j_icmp_ge (tgt := 24) K d_ErrataRow_packed_7 (by decide) (fun q => ?_) (fun q => ?_)
    · have h := if_t h q
      refine j_iload_n K 1 d_ErrataRow_packed_24 rfl rfl ?_
      exact eret_i K h hr hlk d_ErrataRow_packed_25
    · have h := if_f h q
      refine j_iload_n K 1 d_ErrataRow_packed_10 rfl rfl ?_
      refine j_iconst (v := 3) K d_ErrataRow_packed_11 (by decide) ?_
      refine j_ishl K d_ErrataRow_packed_12 ?_
      refine j_aload_n K 0 d_ErrataRow_packed_13 rfl rfl ?_
      refine j_iload_n K 2 d_ErrataRow_packed_14 rfl rfl ?_
      obtain ⟨q2, h⟩ := ck_e h
      refine e_iald K q1 (inb_e q2) d_ErrataRow_packed_15 ?_
      refine j_ior K d_ErrataRow_packed_16 ?_
      obtain ⟨v3, e3, h⟩ := lt_e h
      refine j_eqi e3 ?_
      refine j_istore_n (lv' := [(1, .int v3), (0, .ref x0), (2, .int x2)]) K d_ErrataRow_packed_17 rfl (by decide) rfl ?_
      obtain ⟨v4, e4, h⟩ := lt_e h
      refine j_iinc (k := 2) (v := v4) (lv' := [(2, .int v4), (1, .int v3), (0, .ref x0)]) K d_ErrataRow_packed_18 rfl (by rw [e4]; rfl) (by decide) rfl ?_
      refine j_goto (tgt := 4) K d_ErrataRow_packed_21 (by decide) ?_
      refine j_sub [2, 1, 0] rfl ?_
      exact ih x0 v3 v4 κ h
def p_ErrataRow_packed (N : Nat) (a1 : Nat) (κ : Cz) : Option (Int32 × Cz) := b_ErrataRow_packed_4 N N a1 0 0 κ
set_option maxHeartbeats 4000000 in
set_option maxRecDepth 100000 in
theorem c_ErrataRow_packed_ok (l : Launch) (D : va_G) (θ : Tc) (N : Nat) (a1 : Nat) (κ : Cz) (ρ : Int32 × Cz) (h : p_ErrataRow_packed N a1 κ = some ρ) : CEi l D θ y_ErrataRow_packed c_ErrataRow_packed 3 (some .int) 1 0 0 [.ref a1] κ ρ := by
  intro sz
  refine e_met l [.ref a1] (by decide +kernel) (Nat.le_of_ble_eq_true rfl) ?_
  intro p e s m args below meth c K hN hr hlk hnm hs
  generalize va_A (wE θ κ) sz = A at K ⊢
  have K : KE p s m args c c_ErrataRow_packed 3 "ErrataRow" y_ErrataRow_packed (some .int) D θ A := K
  show JE p l e (rmA 1 0 0) s m args below meth c D θ A 3 0 0 (QEi below args s D θ A 0 0 ρ) κ [(0, .ref a1)] [] 0
  unfold p_ErrataRow_packed at h
  refine j_iconst (v := 0) K d_ErrataRow_packed_0 (by decide) ?_
  refine j_istore_n (lv' := [(1, .int 0), (0, .ref a1)]) K d_ErrataRow_packed_1 rfl (by decide) rfl ?_
  refine j_iconst (v := 0) K d_ErrataRow_packed_2 (by decide) ?_
  refine j_istore_n (lv' := [(2, .int 0), (1, .int 0), (0, .ref a1)]) K d_ErrataRow_packed_3 rfl (by decide) rfl ?_
  refine j_sub [2, 1, 0] rfl ?_
  exact t_ErrataRow_packed_4 K hN hr hlk N ρ N a1 0 0 κ h
def b_ErrataRow_isSamePart_3 (N : Nat) : Nat → Nat → Int32 → Int32 → Int32 → Int32 → Cz → Option (Int32 × Cz)
  | 0, _, _, _, _, _, _ => none
  | n + 1, x0, x1, x2, x3, x4, κ => if x3 ≤ x4 then some (1, κ) else ck (isK κ x0 11) (bo (fr κ x0 7) (fun o2 => ck (isK κ o2 10) (bo (fr κ o2 1) (fun o4 => ck (isK κ o4 8) (bo (fr κ o4 0) (fun o6 => lt (x1 + x4) (fun v7 => ck (isK κ o6 20) (ck (inb v7 (ln κ o6)) (bo (fr κ x0 7) (fun o10 => ck (isK κ o10 10) (bo (fr κ o10 1) (fun o12 => ck (isK κ o12 8) (bo (fr κ o12 0) (fun o14 => lt (x2 + x4) (fun v15 => ck (isK κ o14 20) (ck (inb v15 (ln κ o14)) (if (ai κ o6 v7.toNatClampNeg) = (ai κ o14 v15.toNatClampNeg) then lt (x4 + 1) (fun v18 => b_ErrataRow_isSamePart_3 N n x0 x1 x2 x3 v18 κ) else some (0, κ))))))))))))))))))
set_option maxHeartbeats 4000000 in
set_option maxRecDepth 100000 in
theorem t_ErrataRow_isSamePart_3 {p : Program} {l : Launch} {e : Env} {s : State} {m : MethodId} {args : Array Value} {below : List Frame} {meth : Method} {c : Code} {D : va_G} {θ : Tc} {A : Nat → Prop} (K : KE p s m args c c_ErrataRow_isSamePart 5 "ErrataRow" y_ErrataRow_isSamePart (some .boolean) D θ A) (hN : NX s) (hr : meth.sig.returnType = (some .boolean)) (hlk : meth.locks = false) (N : Nat) (ρ : Int32 × Cz) : ∀ (n : Nat) (x0 : Nat) (x1 : Int32) (x2 : Int32) (x3 : Int32) (x4 : Int32) (κ : Cz), b_ErrataRow_isSamePart_3 N n x0 x1 x2 x3 x4 κ = some ρ → JE p l e (rmA 1 0 0) s m args below meth c D θ A 5 0 0 (QEi below args s D θ A 0 0 ρ) κ [(0, .ref x0), (1, .int x1), (2, .int x2), (3, .int x3), (4, .int x4)] [] 3 := by
  intro n
  induction n with
  | zero =>
    intro x0 x1 x2 x3 x4 κ h
    exact absurd h (by simp [b_ErrataRow_isSamePart_3])
  | succ n ih =>
    intro x0 x1 x2 x3 x4 κ h
    rw [b_ErrataRow_isSamePart_3] at h
    refine j_iload K 4 d_ErrataRow_isSamePart_3 rfl ?_
    refine j_iload_n K 3 d_ErrataRow_isSamePart_5 rfl rfl ?_
    refine j_icmp_ge (tgt := 50) K d_ErrataRow_isSamePart_6 (by decide) (fun q => ?_) (fun q => ?_)
    · have h := if_t h q
      refine j_iconst (v := 1) K d_ErrataRow_isSamePart_50 (by decide) ?_
      exact eret_z K h rfl hr hlk d_ErrataRow_isSamePart_51
    · have h := if_f h q
      refine j_aload_n K 0 d_ErrataRow_isSamePart_9 rfl rfl ?_
      obtain ⟨q1, h⟩ := ck_e h
      refine eg_ErrataRow_world K ef_ErrataRow_45 q1 d_ErrataRow_isSamePart_10 ?_
      obtain ⟨o2, e2, h⟩ := bo_e h
      refine j_eqq e2 ?_
      obtain ⟨q3, h⟩ := ck_e h
      refine eg_World_now K ef_ErrataRow_145 q3 d_ErrataRow_isSamePart_13 ?_
      obtain ⟨o4, e4, h⟩ := bo_e h
      refine j_eqq e4 ?_
      obtain ⟨q5, h⟩ := ck_e h
      refine eg_State_put K ef_ErrataRow_148 q5 d_ErrataRow_isSamePart_16 ?_
      obtain ⟨o6, e6, h⟩ := bo_e h
      refine j_eqq e6 ?_
      refine j_iload_n K 1 d_ErrataRow_isSamePart_19 rfl rfl ?_
      refine j_iload K 4 d_ErrataRow_isSamePart_20 rfl ?_
      refine j_iadd K d_ErrataRow_isSamePart_22 ?_
      obtain ⟨v7, e7, h⟩ := lt_e h
      refine j_eqi e7 ?_
      obtain ⟨q8, h⟩ := ck_e h
      obtain ⟨q9, h⟩ := ck_e h
      refine e_iald K q8 (inb_e q9) d_ErrataRow_isSamePart_23 ?_
      refine j_aload_n K 0 d_ErrataRow_isSamePart_24 rfl rfl ?_
      refine eg_ErrataRow_world K ef_ErrataRow_45 q1 d_ErrataRow_isSamePart_25 ?_
      obtain ⟨o10, e10, h⟩ := bo_e h
      refine j_eqq e10 ?_
      obtain ⟨q11, h⟩ := ck_e h
      refine eg_World_now K ef_ErrataRow_145 q11 d_ErrataRow_isSamePart_28 ?_
      obtain ⟨o12, e12, h⟩ := bo_e h
      refine j_eqq e12 ?_
      obtain ⟨q13, h⟩ := ck_e h
      refine eg_State_put K ef_ErrataRow_148 q13 d_ErrataRow_isSamePart_31 ?_
      obtain ⟨o14, e14, h⟩ := bo_e h
      refine j_eqq e14 ?_
      refine j_iload_n K 2 d_ErrataRow_isSamePart_34 rfl rfl ?_
      refine j_iload K 4 d_ErrataRow_isSamePart_35 rfl ?_
      refine j_iadd K d_ErrataRow_isSamePart_37 ?_
      obtain ⟨v15, e15, h⟩ := lt_e h
      refine j_eqi e15 ?_
      obtain ⟨q16, h⟩ := ck_e h
      obtain ⟨q17, h⟩ := ck_e h
      refine e_iald K q16 (inb_e q17) d_ErrataRow_isSamePart_38 ?_
      refine j_icmp_eq (tgt := 44) K d_ErrataRow_isSamePart_39 (by decide) (fun q => ?_) (fun q => ?_)
      · have h := if_t h q
        obtain ⟨v18, e18, h⟩ := lt_e h
        refine j_iinc (k := 4) (v := v18) (lv' := [(4, .int v18), (0, .ref x0), (1, .int x1), (2, .int x2), (3, .int x3)]) K d_ErrataRow_isSamePart_44 rfl (by rw [e18]; rfl) (by decide) rfl ?_
        refine j_goto (tgt := 3) K d_ErrataRow_isSamePart_47 (by decide) ?_
        refine j_sub [1, 2, 3, 4, 0] rfl ?_
        exact ih x0 x1 x2 x3 v18 κ h
      · have h := if_f h q
        refine j_iconst (v := 0) K d_ErrataRow_isSamePart_42 (by decide) ?_
        exact eret_z K h rfl hr hlk d_ErrataRow_isSamePart_43
def p_ErrataRow_isSamePart (N : Nat) (this : Nat) (a1 : Int32) (a2 : Int32) (a3 : Int32) (κ : Cz) : Option (Int32 × Cz) := b_ErrataRow_isSamePart_3 N N this a1 a2 a3 0 κ
set_option maxHeartbeats 4000000 in
set_option maxRecDepth 100000 in
theorem c_ErrataRow_isSamePart_ok (l : Launch) (D : va_G) (θ : Tc) (N : Nat) (this : Nat) (a1 : Int32) (a2 : Int32) (a3 : Int32) (κ : Cz) (ρ : Int32 × Cz) (h : p_ErrataRow_isSamePart N this a1 a2 a3 κ = some ρ) : CEi l D θ y_ErrataRow_isSamePart c_ErrataRow_isSamePart 5 (some .boolean) 1 0 0 [.ref this, .int a1, .int a2, .int a3] κ ρ := by
  intro sz
  refine e_met l [.ref this, .int a1, .int a2, .int a3] (by decide +kernel) (Nat.le_of_ble_eq_true rfl) ?_
  intro p e s m args below meth c K hN hr hlk hnm hs
  generalize va_A (wE θ κ) sz = A at K ⊢
  have K : KE p s m args c c_ErrataRow_isSamePart 5 "ErrataRow" y_ErrataRow_isSamePart (some .boolean) D θ A := K
  show JE p l e (rmA 1 0 0) s m args below meth c D θ A 5 0 0 (QEi below args s D θ A 0 0 ρ) κ [(0, .ref this), (1, .int a1), (2, .int a2), (3, .int a3)] [] 0
  unfold p_ErrataRow_isSamePart at h
  refine j_iconst (v := 0) K d_ErrataRow_isSamePart_0 (by decide) ?_
  refine j_istore (lv' := [(4, .int 0), (0, .ref this), (1, .int a1), (2, .int a2), (3, .int a3)]) K d_ErrataRow_isSamePart_1 (by decide) rfl ?_
  refine j_sub [1, 2, 3, 4, 0] rfl ?_
  exact t_ErrataRow_isSamePart_3 K hN hr hlk N ρ N this a1 a2 a3 0 κ h
def p_ErrataRow_keepFound (N : Nat) (this : Nat) (a1 : Int32) (a2 : Int32) (a3 : Int32) (κ : Cz) : Option (Cz) := ck (isK κ this 11) (bo (fr κ this 13) (fun o2 => ck (isK κ o2 20) (ck (inb (0 : Int32) (ln κ o2)) (lt (sai o2 (upd (ai κ o2) (0 : Int32).toNatClampNeg a1) κ) (fun κ5 => bo (fr κ5 this 13) (fun o6 => ck (isK κ5 o6 20) (ck (inb (1 : Int32) (ln κ5 o6)) (lt (sai o6 (upd (ai κ5 o6) (1 : Int32).toNatClampNeg a2) κ5) (fun κ9 => bo (fr κ9 this 13) (fun o10 => ck (isK κ9 o10 20) (ck (inb (2 : Int32) (ln κ9 o10)) (lt (sai o10 (upd (ai κ9 o10) (2 : Int32).toNatClampNeg a3) κ9) (fun κ13 => some κ13)))))))))))))
set_option maxHeartbeats 4000000 in
set_option maxRecDepth 100000 in
theorem c_ErrataRow_keepFound_ok (l : Launch) (D : va_G) (θ : Tc) (N : Nat) (this : Nat) (a1 : Int32) (a2 : Int32) (a3 : Int32) (κ : Cz) (ρ : Cz) (h : p_ErrataRow_keepFound N this a1 a2 a3 κ = some ρ) : CEv l D θ y_ErrataRow_keepFound c_ErrataRow_keepFound 4 none 1 0 0 [.ref this, .int a1, .int a2, .int a3] κ ρ := by
  intro sz
  refine e_met l [.ref this, .int a1, .int a2, .int a3] (by decide +kernel) (Nat.le_of_ble_eq_true rfl) ?_
  intro p e s m args below meth c K hN hr hlk hnm hs
  generalize va_A (wE θ κ) sz = A at K ⊢
  have K : KE p s m args c c_ErrataRow_keepFound 4 "ErrataRow" y_ErrataRow_keepFound none D θ A := K
  show JE p l e (rmA 1 0 0) s m args below meth c D θ A 4 0 0 (QEv below args s D θ A 0 0 ρ) κ [(0, .ref this), (1, .int a1), (2, .int a2), (3, .int a3)] [] 0
  unfold p_ErrataRow_keepFound at h
  refine j_aload_n K 0 d_ErrataRow_keepFound_0 rfl rfl ?_
  obtain ⟨q1, h⟩ := ck_e h
  refine eg_ErrataRow_found K ef_ErrataRow_89 q1 d_ErrataRow_keepFound_1 ?_
  obtain ⟨o2, e2, h⟩ := bo_e h
  refine j_eqq e2 ?_
  refine j_iconst (v := 0) K d_ErrataRow_keepFound_4 (by decide) ?_
  refine j_iload_n K 1 d_ErrataRow_keepFound_5 rfl rfl ?_
  obtain ⟨q3, h⟩ := ck_e h
  obtain ⟨q4, h⟩ := ck_e h
  obtain ⟨κ5, e5, h⟩ := lt_e h
  refine e_iast K q3 (inb_e q4) d_ErrataRow_keepFound_6 e5 ?_
  refine j_aload_n K 0 d_ErrataRow_keepFound_7 rfl rfl ?_
  refine eg_ErrataRow_found K ef_ErrataRow_89 (isK_sai e5 q1) d_ErrataRow_keepFound_8 ?_
  obtain ⟨o6, e6, h⟩ := bo_e h
  refine j_eqq e6 ?_
  refine j_iconst (v := 1) K d_ErrataRow_keepFound_11 (by decide) ?_
  refine j_iload_n K 2 d_ErrataRow_keepFound_12 rfl rfl ?_
  obtain ⟨q7, h⟩ := ck_e h
  obtain ⟨q8, h⟩ := ck_e h
  obtain ⟨κ9, e9, h⟩ := lt_e h
  refine e_iast K q7 (inb_e q8) d_ErrataRow_keepFound_13 e9 ?_
  refine j_aload_n K 0 d_ErrataRow_keepFound_14 rfl rfl ?_
  refine eg_ErrataRow_found K ef_ErrataRow_89 (isK_sai e9 (isK_sai e5 q1)) d_ErrataRow_keepFound_15 ?_
  obtain ⟨o10, e10, h⟩ := bo_e h
  refine j_eqq e10 ?_
  refine j_iconst (v := 2) K d_ErrataRow_keepFound_18 (by decide) ?_
  refine j_iload_n K 3 d_ErrataRow_keepFound_19 rfl rfl ?_
  obtain ⟨q11, h⟩ := ck_e h
  obtain ⟨q12, h⟩ := ck_e h
  obtain ⟨κ13, e13, h⟩ := lt_e h
  refine e_iast K q11 (inb_e q12) d_ErrataRow_keepFound_20 e13 ?_
  exact eret_v K h hr hlk d_ErrataRow_keepFound_21
def b_ErrataRow_isRest_13 (N : Nat) : Nat → Nat → Int32 → Int32 → Int32 → Int32 → Cz → Option (Int32 × Cz)
  | 0, _, _, _, _, _, _ => none
  | n + 1, x0, x1, x2, x3, x4, κ => if 8 ≤ x4 then some (1, κ) else ck (isK κ x0 11) (bo (fr κ x0 15) (fun o4 => lt (2 * ((x4 * 8) + x3)) (fun v5 => ck (isK κ o4 20) (ck (inb v5 (ln κ o4)) (bo (fr κ x0 15) (fun o8 => lt (2 * x1) (fun v9 => ck (isK κ o8 20) (ck (inb v9 (ln κ o8)) (if (ai κ o4 v5.toNatClampNeg) ≤ (ai κ o8 v9.toNatClampNeg) then bo (fr κ x0 15) (fun o12 => lt ((2 * ((x2 * 8) + x4)) + 1) (fun v13 => ck (isK κ o12 20) (ck (inb v13 (ln κ o12)) (bo (fr κ x0 15) (fun o16 => lt ((2 * x1) + 1) (fun v17 => ck (isK κ o16 20) (ck (inb v17 (ln κ o16)) (if (ai κ o12 v13.toNatClampNeg) ≤ (ai κ o16 v17.toNatClampNeg) then lt (x4 + 1) (fun v20 => b_ErrataRow_isRest_13 N n x0 x1 x2 x3 v20 κ) else some (0, κ))))))))) else some (0, κ))))))))))
set_option maxHeartbeats 4000000 in
set_option maxRecDepth 100000 in
theorem t_ErrataRow_isRest_13 {p : Program} {l : Launch} {e : Env} {s : State} {m : MethodId} {args : Array Value} {below : List Frame} {meth : Method} {c : Code} {D : va_G} {θ : Tc} {A : Nat → Prop} (K : KE p s m args c c_ErrataRow_isRest 5 "ErrataRow" y_ErrataRow_isRest (some .boolean) D θ A) (hN : NX s) (hr : meth.sig.returnType = (some .boolean)) (hlk : meth.locks = false) (N : Nat) (ρ : Int32 × Cz) : ∀ (n : Nat) (x0 : Nat) (x1 : Int32) (x2 : Int32) (x3 : Int32) (x4 : Int32) (κ : Cz), b_ErrataRow_isRest_13 N n x0 x1 x2 x3 x4 κ = some ρ → JE p l e (rmA 1 0 0) s m args below meth c D θ A 5 0 0 (QEi below args s D θ A 0 0 ρ) κ [(0, .ref x0), (1, .int x1), (2, .int x2), (3, .int x3), (4, .int x4)] [] 13 := by
  intro n
  induction n with
  | zero =>
    intro x0 x1 x2 x3 x4 κ h
    exact absurd h (by simp [b_ErrataRow_isRest_13])
  | succ n ih =>
    intro x0 x1 x2 x3 x4 κ h
    rw [b_ErrataRow_isRest_13] at h
    refine j_iload K 4 d_ErrataRow_isRest_13 rfl ?_
    refine j_bipush (v := 8) K d_ErrataRow_isRest_15 (by decide) ?_
    refine j_icmp_ge (tgt := 84) K d_ErrataRow_isRest_17 (by decide) (fun q => ?_) (fun q => ?_)
    · have h := if_t h q
      refine j_iconst (v := 1) K d_ErrataRow_isRest_84 (by decide) ?_
      exact eret_z K h rfl hr hlk d_ErrataRow_isRest_85
    · have h := if_f h q
      refine j_aload_n K 0 d_ErrataRow_isRest_20 rfl rfl ?_
      obtain ⟨q3, h⟩ := ck_e h
      refine eg_ErrataRow_gains K ef_ErrataRow_95 q3 d_ErrataRow_isRest_21 ?_
      obtain ⟨o4, e4, h⟩ := bo_e h
      refine j_eqq e4 ?_
      refine j_iconst (v := 2) K d_ErrataRow_isRest_24 (by decide) ?_
      refine j_iload K 4 d_ErrataRow_isRest_25 rfl ?_
      refine j_bipush (v := 8) K d_ErrataRow_isRest_27 (by decide) ?_
      refine j_imul K d_ErrataRow_isRest_29 ?_
      refine j_iload_n K 3 d_ErrataRow_isRest_30 rfl rfl ?_
      refine j_iadd K d_ErrataRow_isRest_31 ?_
      refine j_imul K d_ErrataRow_isRest_32 ?_
      obtain ⟨v5, e5, h⟩ := lt_e h
      refine j_eqi e5 ?_
      obtain ⟨q6, h⟩ := ck_e h
      obtain ⟨q7, h⟩ := ck_e h
      refine e_iald K q6 (inb_e q7) d_ErrataRow_isRest_33 ?_
      refine j_aload_n K 0 d_ErrataRow_isRest_34 rfl rfl ?_
      refine eg_ErrataRow_gains K ef_ErrataRow_95 q3 d_ErrataRow_isRest_35 ?_
      obtain ⟨o8, e8, h⟩ := bo_e h
      refine j_eqq e8 ?_
      refine j_iconst (v := 2) K d_ErrataRow_isRest_38 (by decide) ?_
      refine j_iload_n K 1 d_ErrataRow_isRest_39 rfl rfl ?_
      refine j_imul K d_ErrataRow_isRest_40 ?_
      obtain ⟨v9, e9, h⟩ := lt_e h
      refine j_eqi e9 ?_
      obtain ⟨q10, h⟩ := ck_e h
      obtain ⟨q11, h⟩ := ck_e h
      refine e_iald K q10 (inb_e q11) d_ErrataRow_isRest_41 ?_
      refine j_icmp_le (tgt := 47) K d_ErrataRow_isRest_42 (by decide) (fun q => ?_) (fun q => ?_)
      · have h := if_t h q
        refine j_aload_n K 0 d_ErrataRow_isRest_47 rfl rfl ?_
        refine eg_ErrataRow_gains K ef_ErrataRow_95 q3 d_ErrataRow_isRest_48 ?_
        obtain ⟨o12, e12, h⟩ := bo_e h
        refine j_eqq e12 ?_
        refine j_iconst (v := 2) K d_ErrataRow_isRest_51 (by decide) ?_
        refine j_iload_n K 2 d_ErrataRow_isRest_52 rfl rfl ?_
        refine j_bipush (v := 8) K d_ErrataRow_isRest_53 (by decide) ?_
        refine j_imul K d_ErrataRow_isRest_55 ?_
        refine j_iload K 4 d_ErrataRow_isRest_56 rfl ?_
        refine j_iadd K d_ErrataRow_isRest_58 ?_
        refine j_imul K d_ErrataRow_isRest_59 ?_
        refine j_iconst (v := 1) K d_ErrataRow_isRest_60 (by decide) ?_
        refine j_iadd K d_ErrataRow_isRest_61 ?_
        obtain ⟨v13, e13, h⟩ := lt_e h
        refine j_eqi e13 ?_
        obtain ⟨q14, h⟩ := ck_e h
        obtain ⟨q15, h⟩ := ck_e h
        refine e_iald K q14 (inb_e q15) d_ErrataRow_isRest_62 ?_
        refine j_aload_n K 0 d_ErrataRow_isRest_63 rfl rfl ?_
        refine eg_ErrataRow_gains K ef_ErrataRow_95 q3 d_ErrataRow_isRest_64 ?_
        obtain ⟨o16, e16, h⟩ := bo_e h
        refine j_eqq e16 ?_
        refine j_iconst (v := 2) K d_ErrataRow_isRest_67 (by decide) ?_
        refine j_iload_n K 1 d_ErrataRow_isRest_68 rfl rfl ?_
        refine j_imul K d_ErrataRow_isRest_69 ?_
        refine j_iconst (v := 1) K d_ErrataRow_isRest_70 (by decide) ?_
        refine j_iadd K d_ErrataRow_isRest_71 ?_
        obtain ⟨v17, e17, h⟩ := lt_e h
        refine j_eqi e17 ?_
        obtain ⟨q18, h⟩ := ck_e h
        obtain ⟨q19, h⟩ := ck_e h
        refine e_iald K q18 (inb_e q19) d_ErrataRow_isRest_72 ?_
        refine j_icmp_le (tgt := 78) K d_ErrataRow_isRest_73 (by decide) (fun q => ?_) (fun q => ?_)
        · have h := if_t h q
          obtain ⟨v20, e20, h⟩ := lt_e h
          refine j_iinc (k := 4) (v := v20) (lv' := [(4, .int v20), (0, .ref x0), (1, .int x1), (2, .int x2), (3, .int x3)]) K d_ErrataRow_isRest_78 rfl (by rw [e20]; rfl) (by decide) rfl ?_
          refine j_goto (tgt := 13) K d_ErrataRow_isRest_81 (by decide) ?_
          refine j_sub [1, 2, 3, 4, 0] rfl ?_
          exact ih x0 x1 x2 x3 v20 κ h
        · have h := if_f h q
          refine j_iconst (v := 0) K d_ErrataRow_isRest_76 (by decide) ?_
          exact eret_z K h rfl hr hlk d_ErrataRow_isRest_77
      · have h := if_f h q
        refine j_iconst (v := 0) K d_ErrataRow_isRest_45 (by decide) ?_
        exact eret_z K h rfl hr hlk d_ErrataRow_isRest_46
def p_ErrataRow_isRest (N : Nat) (this : Nat) (a1 : Int32) (κ : Cz) : Option (Int32 × Cz) := lt (a1 / 8) (fun v1 => lt (a1 - a1 / 8 * 8) (fun v2 => b_ErrataRow_isRest_13 N N this a1 v1 v2 0 κ))
set_option maxHeartbeats 4000000 in
set_option maxRecDepth 100000 in
theorem c_ErrataRow_isRest_ok (l : Launch) (D : va_G) (θ : Tc) (N : Nat) (this : Nat) (a1 : Int32) (κ : Cz) (ρ : Int32 × Cz) (h : p_ErrataRow_isRest N this a1 κ = some ρ) : CEi l D θ y_ErrataRow_isRest c_ErrataRow_isRest 5 (some .boolean) 1 0 0 [.ref this, .int a1] κ ρ := by
  intro sz
  refine e_met l [.ref this, .int a1] (by decide +kernel) (Nat.le_of_ble_eq_true rfl) ?_
  intro p e s m args below meth c K hN hr hlk hnm hs
  generalize va_A (wE θ κ) sz = A at K ⊢
  have K : KE p s m args c c_ErrataRow_isRest 5 "ErrataRow" y_ErrataRow_isRest (some .boolean) D θ A := K
  show JE p l e (rmA 1 0 0) s m args below meth c D θ A 5 0 0 (QEi below args s D θ A 0 0 ρ) κ [(0, .ref this), (1, .int a1)] [] 0
  unfold p_ErrataRow_isRest at h
  refine j_iload_n K 1 d_ErrataRow_isRest_0 rfl rfl ?_
  refine j_bipush (v := 8) K d_ErrataRow_isRest_1 (by decide) ?_
  refine j_idiv K d_ErrataRow_isRest_3 (by decide) ?_
  obtain ⟨v1, e1, h⟩ := lt_e h
  refine j_eqi e1 ?_
  refine j_istore_n (lv' := [(2, .int v1), (0, .ref this), (1, .int a1)]) K d_ErrataRow_isRest_4 rfl (by decide) rfl ?_
  refine j_iload_n K 2 d_ErrataRow_isRest_5 rfl rfl ?_
  refine j_bipush (v := 8) K d_ErrataRow_isRest_6 (by decide) ?_
  refine j_irem K d_ErrataRow_isRest_8 (by decide) ?_
  obtain ⟨v2, e2, h⟩ := lt_e h
  refine j_eqi e2 ?_
  refine j_istore_n (lv' := [(3, .int v2), (2, .int v1), (0, .ref this), (1, .int a1)]) K d_ErrataRow_isRest_9 rfl (by decide) rfl ?_
  refine j_iconst (v := 0) K d_ErrataRow_isRest_10 (by decide) ?_
  refine j_istore (lv' := [(4, .int 0), (3, .int v2), (2, .int v1), (0, .ref this), (1, .int a1)]) K d_ErrataRow_isRest_11 (by decide) rfl ?_
  refine j_sub [3, 4, 2, 1, 0] rfl ?_
  exact t_ErrataRow_isRest_13 K hN hr hlk N ρ N this a1 v1 v2 0 κ h
def p_ErrataRow_unpacked (N : Nat) (a1 : Int32) (a2 : Int32) (κ : Cz) : Option (Int32 × Cz) := some (((a1.toUInt32 >>> ((3 * (9 - a2)).toUInt32 &&& Int32.toUInt32 31)).toInt32) &&& 7, κ)
set_option maxHeartbeats 4000000 in
set_option maxRecDepth 100000 in
theorem c_ErrataRow_unpacked_ok (l : Launch) (D : va_G) (θ : Tc) (N : Nat) (a1 : Int32) (a2 : Int32) (κ : Cz) (ρ : Int32 × Cz) (h : p_ErrataRow_unpacked N a1 a2 κ = some ρ) : CEi l D θ y_ErrataRow_unpacked c_ErrataRow_unpacked 2 (some .int) 1 0 0 [.int a1, .int a2] κ ρ := by
  intro sz
  refine e_met l [.int a1, .int a2] (by decide +kernel) (Nat.le_of_ble_eq_true rfl) ?_
  intro p e s m args below meth c K hN hr hlk hnm hs
  generalize va_A (wE θ κ) sz = A at K ⊢
  have K : KE p s m args c c_ErrataRow_unpacked 2 "ErrataRow" y_ErrataRow_unpacked (some .int) D θ A := K
  show JE p l e (rmA 1 0 0) s m args below meth c D θ A 2 0 0 (QEi below args s D θ A 0 0 ρ) κ [(0, .int a1), (1, .int a2)] [] 0
  unfold p_ErrataRow_unpacked at h
  refine j_iload_n K 0 d_ErrataRow_unpacked_0 rfl rfl ?_
  refine j_iconst (v := 3) K d_ErrataRow_unpacked_1 (by decide) ?_
  refine j_bipush (v := 9) K d_ErrataRow_unpacked_2 (by decide) ?_
  refine j_iload_n K 1 d_ErrataRow_unpacked_4 rfl rfl ?_
  refine j_isub K d_ErrataRow_unpacked_5 ?_
  refine j_imul K d_ErrataRow_unpacked_6 ?_
  refine j_iushr K d_ErrataRow_unpacked_7 ?_
  refine j_bipush (v := 7) K d_ErrataRow_unpacked_8 (by decide) ?_
  refine j_iand K d_ErrataRow_unpacked_10 ?_
  exact eret_i K h hr hlk d_ErrataRow_unpacked_11
