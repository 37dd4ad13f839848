def p_Book_editionsRound (N : Nat) (this : Nat) (κ : Cz) : Option (Int32 × Cz) := ck (isK κ this 0) (lt (if (fi κ this 3) < 1 then 1 else (fi κ this 3)) (fun v2 => some (v2, κ)))
set_option maxHeartbeats 4000000 in
set_option maxRecDepth 100000 in
theorem c_Book_editionsRound_ok (l : Launch) (D : va_G) (θ : Tc) (N : Nat) (this : Nat) (κ : Cz) (ρ : Int32 × Cz) (h : p_Book_editionsRound N this κ = some ρ) : CEi l D θ y_Book_editionsRound c_Book_editionsRound 1 (some .int) 1 0 0 [.ref this] κ ρ := by
  intro sz
  refine e_met l [.ref this] (by decide +kernel) (Nat.le_of_ble_eq_true rfl) ?_
  intro p e s m args below meth c K hN hr hlk hnm hs
  generalize va_A (wE θ κ) sz = A at K ⊢
  have K : KE p s m args c c_Book_editionsRound 1 "ErrataRow$Book" y_Book_editionsRound (some .int) D θ A := K
  show JE p l e (rmA 1 0 0) s m args below meth c D θ A 1 0 0 (QEi below args s D θ A 0 0 ρ) κ [(0, .ref this)] [] 0
  unfold p_Book_editionsRound at h
  refine j_aload_n K 0 d_Book_editionsRound_0 rfl rfl ?_
  obtain ⟨q1, h⟩ := ck_e h
  refine eg_Book_habits K ef_Book_39 q1 d_Book_editionsRound_1 ?_
  refine j_iconst (v := 1) K d_Book_editionsRound_4 (by decide) ?_
  refine e_mmax K el_Book_61 es_mmax ei_Math ec_mmax (by decide) (Nat.le_of_ble_eq_true rfl) (Nat.le_of_ble_eq_true rfl) (Nat.le_of_ble_eq_true rfl) d_Book_editionsRound_5 ?_
  obtain ⟨v2, e2, h⟩ := lt_e h
  refine j_eqi e2 ?_
  exact eret_i K h hr hlk d_Book_editionsRound_8
def p_Book_addLetter (N : Nat) (this : Nat) (a1 : Int32) (a2 : Int32) (κ : Cz) : Option (Cz) := ck (isK κ this 0) (if 10 ≤ (fi κ this 2) then some κ else bo (fr κ this 7) (fun o2 => ck (isK κ o2 8) (bo (fr κ o2 0) (fun o4 => ck (isK κ o4 20) (ck (inb (fi κ this 2) (ln κ o4)) (lt (sai o4 (upd (ai κ o4) (fi κ this 2).toNatClampNeg a1) κ) (fun κ7 => bo (fr κ7 this 4) (fun o8 => ck (isK κ7 o8 20) (ck (inb (fi κ7 this 2) (ln κ7 o8)) (lt (sai o8 (upd (ai κ7 o8) (fi κ7 this 2).toNatClampNeg a2) κ7) (fun κ11 => lt ((fi κ11 this 2) + 1) (fun v12 => lt (sfi this 2 v12 κ11) (fun κ13 => some κ13)))))))))))))
set_option maxHeartbeats 4000000 in
set_option maxRecDepth 100000 in
theorem c_Book_addLetter_ok (l : Launch) (D : va_G) (θ : Tc) (N : Nat) (this : Nat) (a1 : Int32) (a2 : Int32) (κ : Cz) (ρ : Cz) (h : p_Book_addLetter N this a1 a2 κ = some ρ) : CEv l D θ y_Book_addLetter c_Book_addLetter 3 none 1 0 0 [.ref this, .int a1, .int a2] κ ρ := by
  intro sz
  refine e_met l [.ref this, .int a1, .int a2] (by decide +kernel) (Nat.le_of_ble_eq_true rfl) ?_
  intro p e s m args below meth c K hN hr hlk hnm hs
  generalize va_A (wE θ κ) sz = A at K ⊢
  have K : KE p s m args c c_Book_addLetter 3 "ErrataRow$Book" y_Book_addLetter none D θ A := K
  show JE p l e (rmA 1 0 0) s m args below meth c D θ A 3 0 0 (QEv below args s D θ A 0 0 ρ) κ [(0, .ref this), (1, .int a1), (2, .int a2)] [] 0
  unfold p_Book_addLetter at h
  refine j_aload_n K 0 d_Book_addLetter_0 rfl rfl ?_
  obtain ⟨q1, h⟩ := ck_e h
  refine eg_Book_letters K ef_Book_36 q1 d_Book_addLetter_1 ?_
  refine j_bipush (v := 10) K d_Book_addLetter_4 (by decide) ?_
  refine j_icmp_ge (tgt := 42) K d_Book_addLetter_6 (by decide) (fun q => ?_) (fun q => ?_)
  · have h := if_t h q
    exact eret_v K h hr hlk d_Book_addLetter_42
  · have h := if_f h q
    refine j_aload_n K 0 d_Book_addLetter_9 rfl rfl ?_
    refine eg_Book_begin K ef_Book_24 q1 d_Book_addLetter_10 ?_
    obtain ⟨o2, e2, h⟩ := bo_e h
    refine j_eqq e2 ?_
    obtain ⟨q3, h⟩ := ck_e h
    refine eg_State_put K ef_Book_67 q3 d_Book_addLetter_13 ?_
    obtain ⟨o4, e4, h⟩ := bo_e h
    refine j_eqq e4 ?_
    refine j_aload_n K 0 d_Book_addLetter_16 rfl rfl ?_
    refine eg_Book_letters K ef_Book_36 q1 d_Book_addLetter_17 ?_
    refine j_iload_n K 1 d_Book_addLetter_20 rfl rfl ?_
    obtain ⟨q5, h⟩ := ck_e h
    obtain ⟨q6, h⟩ := ck_e h
    obtain ⟨κ7, e7, h⟩ := lt_e h
    refine e_iast K q5 (inb_e q6) d_Book_addLetter_21 e7 ?_
    refine j_aload_n K 0 d_Book_addLetter_22 rfl rfl ?_
    refine eg_Book_meant K ef_Book_9 (isK_sai e7 q1) d_Book_addLetter_23 ?_
    obtain ⟨o8, e8, h⟩ := bo_e h
    refine j_eqq e8 ?_
    refine j_aload_n K 0 d_Book_addLetter_26 rfl rfl ?_
    refine eg_Book_letters K ef_Book_36 (isK_sai e7 q1) d_Book_addLetter_27 ?_
    refine j_iload_n K 2 d_Book_addLetter_30 rfl rfl ?_
    obtain ⟨q9, h⟩ := ck_e h
    obtain ⟨q10, h⟩ := ck_e h
    obtain ⟨κ11, e11, h⟩ := lt_e h
    refine e_iast K q9 (inb_e q10) d_Book_addLetter_31 e11 ?_
    refine j_aload_n K 0 d_Book_addLetter_32 rfl rfl ?_
    refine j_dup K d_Book_addLetter_33 rfl ?_
    refine eg_Book_letters K ef_Book_36 (isK_sai e11 (isK_sai e7 q1)) d_Book_addLetter_34 ?_
    refine j_iconst (v := 1) K d_Book_addLetter_37 (by decide) ?_
    refine j_iadd K d_Book_addLetter_38 ?_
    obtain ⟨v12, e12, h⟩ := lt_e h
    refine j_eqi e12 ?_
    obtain ⟨κ13, e13, h⟩ := lt_e h
    refine ep_Book_letters K ef_Book_36 (isK_sai e11 (isK_sai e7 q1)) d_Book_addLetter_39 e13 ?_
    exact eret_v K h hr hlk d_Book_addLetter_42
def p_Book_addHabit (N : Nat) (this : Nat) (a1 : Int32) (a2 : Int32) (κ : Cz) : Option (Cz) := ck (isK κ this 0) (if 12 ≤ (fi κ this 3) then some κ else bo (fr κ this 5) (fun o2 => ck (isK κ o2 20) (ck (inb (fi κ this 3) (ln κ o2)) (lt (sai o2 (upd (ai κ o2) (fi κ this 3).toNatClampNeg a1) κ) (fun κ5 => bo (fr κ5 this 6) (fun o6 => ck (isK κ5 o6 20) (ck (inb (fi κ5 this 3) (ln κ5 o6)) (lt (sai o6 (upd (ai κ5 o6) (fi κ5 this 3).toNatClampNeg a2) κ5) (fun κ9 => lt ((fi κ9 this 3) + 1) (fun v10 => lt (sfi this 3 v10 κ9) (fun κ11 => some κ11)))))))))))
set_option maxHeartbeats 4000000 in
set_option maxRecDepth 100000 in
theorem c_Book_addHabit_ok (l : Launch) (D : va_G) (θ : Tc) (N : Nat) (this : Nat) (a1 : Int32) (a2 : Int32) (κ : Cz) (ρ : Cz) (h : p_Book_addHabit N this a1 a2 κ = some ρ) : CEv l D θ y_Book_addHabit c_Book_addHabit 3 none 1 0 0 [.ref this, .int a1, .int a2] κ ρ := by
  intro sz
  refine e_met l [.ref this, .int a1, .int a2] (by decide +kernel) (Nat.le_of_ble_eq_true rfl) ?_
  intro p e s m args below meth c K hN hr hlk hnm hs
  generalize va_A (wE θ κ) sz = A at K ⊢
  have K : KE p s m args c c_Book_addHabit 3 "ErrataRow$Book" y_Book_addHabit none D θ A := K
  show JE p l e (rmA 1 0 0) s m args below meth c D θ A 3 0 0 (QEv below args s D θ A 0 0 ρ) κ [(0, .ref this), (1, .int a1), (2, .int a2)] [] 0
  unfold p_Book_addHabit at h
  refine j_aload_n K 0 d_Book_addHabit_0 rfl rfl ?_
  obtain ⟨q1, h⟩ := ck_e h
  refine eg_Book_habits K ef_Book_39 q1 d_Book_addHabit_1 ?_
  refine j_bipush (v := 12) K d_Book_addHabit_4 (by decide) ?_
  refine j_icmp_ge (tgt := 39) K d_Book_addHabit_6 (by decide) (fun q => ?_) (fun q => ?_)
  · have h := if_t h q
    exact eret_v K h hr hlk d_Book_addHabit_39
  · have h := if_f h q
    refine j_aload_n K 0 d_Book_addHabit_9 rfl rfl ?_
    refine eg_Book_from K ef_Book_15 q1 d_Book_addHabit_10 ?_
    obtain ⟨o2, e2, h⟩ := bo_e h
    refine j_eqq e2 ?_
    refine j_aload_n K 0 d_Book_addHabit_13 rfl rfl ?_
    refine eg_Book_habits K ef_Book_39 q1 d_Book_addHabit_14 ?_
    refine j_iload_n K 1 d_Book_addHabit_17 rfl rfl ?_
    obtain ⟨q3, h⟩ := ck_e h
    obtain ⟨q4, h⟩ := ck_e h
    obtain ⟨κ5, e5, h⟩ := lt_e h
    refine e_iast K q3 (inb_e q4) d_Book_addHabit_18 e5 ?_
    refine j_aload_n K 0 d_Book_addHabit_19 rfl rfl ?_
    refine eg_Book_to K ef_Book_18 (isK_sai e5 q1) d_Book_addHabit_20 ?_
    obtain ⟨o6, e6, h⟩ := bo_e h
    refine j_eqq e6 ?_
    refine j_aload_n K 0 d_Book_addHabit_23 rfl rfl ?_
    refine eg_Book_habits K ef_Book_39 (isK_sai e5 q1) d_Book_addHabit_24 ?_
    refine j_iload_n K 2 d_Book_addHabit_27 rfl rfl ?_
    obtain ⟨q7, h⟩ := ck_e h
    obtain ⟨q8, h⟩ := ck_e h
    obtain ⟨κ9, e9, h⟩ := lt_e h
    refine e_iast K q7 (inb_e q8) d_Book_addHabit_28 e9 ?_
    refine j_aload_n K 0 d_Book_addHabit_29 rfl rfl ?_
    refine j_dup K d_Book_addHabit_30 rfl ?_
    refine eg_Book_habits K ef_Book_39 (isK_sai e9 (isK_sai e5 q1)) d_Book_addHabit_31 ?_
    refine j_iconst (v := 1) K d_Book_addHabit_34 (by decide) ?_
    refine j_iadd K d_Book_addHabit_35 ?_
    obtain ⟨v10, e10, h⟩ := lt_e h
    refine j_eqi e10 ?_
    obtain ⟨κ11, e11, h⟩ := lt_e h
    refine ep_Book_habits K ef_Book_39 (isK_sai e9 (isK_sai e5 q1)) d_Book_addHabit_36 e11 ?_
    exact eret_v K h hr hlk d_Book_addHabit_39
def p_History_forget (N : Nat) (this : Nat) (κ : Cz) : Option (Cz) := ck (isK κ this 2) (lt (sfi this 0 0 κ) (fun κ2 => some κ2))
set_option maxHeartbeats 4000000 in
set_option maxRecDepth 100000 in
theorem c_History_forget_ok (l : Launch) (D : va_G) (θ : Tc) (N : Nat) (this : Nat) (κ : Cz) (ρ : Cz) (h : p_History_forget N this κ = some ρ) : CEv l D θ y_History_forget c_History_forget 1 none 1 0 0 [.ref this] κ ρ := by
  intro sz
  refine e_met l [.ref this] (by decide +kernel) (Nat.le_of_ble_eq_true rfl) ?_
  intro p e s m args below meth c K hN hr hlk hnm hs
  generalize va_A (wE θ κ) sz = A at K ⊢
  have K : KE p s m args c c_History_forget 1 "ErrataRow$History" y_History_forget none D θ A := K
  show JE p l e (rmA 1 0 0) s m args below meth c D θ A 1 0 0 (QEv below args s D θ A 0 0 ρ) κ [(0, .ref this)] [] 0
  unfold p_History_forget at h
  refine j_aload_n K 0 d_History_forget_0 rfl rfl ?_
  refine j_iconst (v := 0) K d_History_forget_1 (by decide) ?_
  obtain ⟨q1, h⟩ := ck_e h
  obtain ⟨κ2, e2, h⟩ := lt_e h
  refine ep_History_size K ef_History_26 q1 d_History_forget_2 e2 ?_
  exact eret_v K h hr hlk d_History_forget_5
def p_Notes_add (N : Nat) (this : Nat) (a1 : Int32) (a2 : Int32) (a3 : Int32) (κ : Cz) : Option (Cz) := ck (isK κ this 3) (if 10 ≤ (fi κ this 0) then some κ else bo (fr κ this 1) (fun o2 => ck (isK κ o2 20) (ck (inb (fi κ this 0) (ln κ o2)) (lt (sai o2 (upd (ai κ o2) (fi κ this 0).toNatClampNeg a1) κ) (fun κ5 => bo (fr κ5 this 2) (fun o6 => ck (isK κ5 o6 20) (ck (inb (fi κ5 this 0) (ln κ5 o6)) (lt (sai o6 (upd (ai κ5 o6) (fi κ5 this 0).toNatClampNeg a2) κ5) (fun κ9 => bo (fr κ9 this 3) (fun o10 => ck (isK κ9 o10 20) (ck (inb (fi κ9 this 0) (ln κ9 o10)) (lt (sai o10 (upd (ai κ9 o10) (fi κ9 this 0).toNatClampNeg a3) κ9) (fun κ13 => lt ((fi κ13 this 0) + 1) (fun v14 => lt (sfi this 0 v14 κ13) (fun κ15 => some κ15)))))))))))))))
set_option maxHeartbeats 4000000 in
set_option maxRecDepth 100000 in
theorem c_Notes_add_ok (l : Launch) (D : va_G) (θ : Tc) (N : Nat) (this : Nat) (a1 : Int32) (a2 : Int32) (a3 : Int32) (κ : Cz) (ρ : Cz) (h : p_Notes_add N this a1 a2 a3 κ = some ρ) : CEv l D θ y_Notes_add c_Notes_add 4 none 1 0 0 [.ref this, .int a1, .int a2, .int a3] κ ρ := by
  intro sz
  refine e_met l [.ref this, .int a1, .int a2, .int a3] (by decide +kernel) (Nat.le_of_ble_eq_true rfl) ?_
  intro p e s m args below meth c K hN hr hlk hnm hs
  generalize va_A (wE θ κ) sz = A at K ⊢
  have K : KE p s m args c c_Notes_add 4 "ErrataRow$Notes" y_Notes_add none D θ A := K
  show JE p l e (rmA 1 0 0) s m args below meth c D θ A 4 0 0 (QEv below args s D θ A 0 0 ρ) κ [(0, .ref this), (1, .int a1), (2, .int a2), (3, .int a3)] [] 0
  unfold p_Notes_add at h
  refine j_aload_n K 0 d_Notes_add_0 rfl rfl ?_
  obtain ⟨q1, h⟩ := ck_e h
  refine eg_Notes_size K ef_Notes_21 q1 d_Notes_add_1 ?_
  refine j_bipush (v := 10) K d_Notes_add_4 (by decide) ?_
  refine j_icmp_ge (tgt := 49) K d_Notes_add_6 (by decide) (fun q => ?_) (fun q => ?_)
  · have h := if_t h q
    exact eret_v K h hr hlk d_Notes_add_49
  · have h := if_f h q
    refine j_aload_n K 0 d_Notes_add_9 rfl rfl ?_
    refine eg_Notes_behind K ef_Notes_9 q1 d_Notes_add_10 ?_
    obtain ⟨o2, e2, h⟩ := bo_e h
    refine j_eqq e2 ?_
    refine j_aload_n K 0 d_Notes_add_13 rfl rfl ?_
    refine eg_Notes_size K ef_Notes_21 q1 d_Notes_add_14 ?_
    refine j_iload_n K 1 d_Notes_add_17 rfl rfl ?_
    obtain ⟨q3, h⟩ := ck_e h
    obtain ⟨q4, h⟩ := ck_e h
    obtain ⟨κ5, e5, h⟩ := lt_e h
    refine e_iast K q3 (inb_e q4) d_Notes_add_18 e5 ?_
    refine j_aload_n K 0 d_Notes_add_19 rfl rfl ?_
    refine eg_Notes_letters K ef_Notes_15 (isK_sai e5 q1) d_Notes_add_20 ?_
    obtain ⟨o6, e6, h⟩ := bo_e h
    refine j_eqq e6 ?_
    refine j_aload_n K 0 d_Notes_add_23 rfl rfl ?_
    refine eg_Notes_size K ef_Notes_21 (isK_sai e5 q1) d_Notes_add_24 ?_
    refine j_iload_n K 2 d_Notes_add_27 rfl rfl ?_
    obtain ⟨q7, h⟩ := ck_e h
    obtain ⟨q8, h⟩ := ck_e h
    obtain ⟨κ9, e9, h⟩ := lt_e h
    refine e_iast K q7 (inb_e q8) d_Notes_add_28 e9 ?_
    refine j_aload_n K 0 d_Notes_add_29 rfl rfl ?_
    refine eg_Notes_puts K ef_Notes_18 (isK_sai e9 (isK_sai e5 q1)) d_Notes_add_30 ?_
    obtain ⟨o10, e10, h⟩ := bo_e h
    refine j_eqq e10 ?_
    refine j_aload_n K 0 d_Notes_add_33 rfl rfl ?_
    refine eg_Notes_size K ef_Notes_21 (isK_sai e9 (isK_sai e5 q1)) d_Notes_add_34 ?_
    refine j_iload_n K 3 d_Notes_add_37 rfl rfl ?_
    obtain ⟨q11, h⟩ := ck_e h
    obtain ⟨q12, h⟩ := ck_e h
    obtain ⟨κ13, e13, h⟩ := lt_e h
    refine e_iast K q11 (inb_e q12) d_Notes_add_38 e13 ?_
    refine j_aload_n K 0 d_Notes_add_39 rfl rfl ?_
    refine j_dup K d_Notes_add_40 rfl ?_
    refine eg_Notes_size K ef_Notes_21 (isK_sai e13 (isK_sai e9 (isK_sai e5 q1))) d_Notes_add_41 ?_
    refine j_iconst (v := 1) K d_Notes_add_44 (by decide) ?_
    refine j_iadd K d_Notes_add_45 ?_
    obtain ⟨v14, e14, h⟩ := lt_e h
    refine j_eqi e14 ?_
    obtain ⟨κ15, e15, h⟩ := lt_e h
    refine ep_Notes_size K ef_Notes_21 (isK_sai e13 (isK_sai e9 (isK_sai e5 q1))) d_Notes_add_46 e15 ?_
    exact eret_v K h hr hlk d_Notes_add_49
def b_Notes_last_4 (N : Nat) : Nat → Nat → Int32 → Int32 → Cz → Option (Int32 × Cz)
  | 0, _, _, _, _ => none
  | n + 1, x0, x1, x2, κ => ck (isK κ x0 3) (if (fi κ x0 0) ≤ x2 then some (x1, κ) else bo (fr κ x0 1) (fun o2 => ck (isK κ o2 20) (ck (inb x2 (ln κ o2)) (lt (if x1 < (ai κ o2 x2.toNatClampNeg) then (ai κ o2 x2.toNatClampNeg) else x1) (fun v5 => lt (x2 + 1) (fun v6 => b_Notes_last_4 N n x0 v5 v6 κ))))))
set_option maxHeartbeats 4000000 in
set_option maxRecDepth 100000 in
theorem t_Notes_last_4 {p : Program} {l : Launch} {e : Env} {s : State} {m : MethodId} {args : Array Value} {below : List Frame} {meth : Method} {c : Code} {D : va_G} {θ : Tc} {A : Nat → Prop} (K : KE p s m args c c_Notes_last 3 "ErrataRow$Notes" y_Notes_last (some .int) D θ A) (hN : NX s) (hr : meth.sig.returnType = (some .int)) (hlk : meth.locks = false) (N : Nat) (ρ : Int32 × Cz) : ∀ (n : Nat) (x0 : Nat) (x1 : Int32) (x2 : Int32) (κ : Cz), b_Notes_last_4 N n x0 x1 x2 κ = some ρ → JE p l e (rmA 1 0 0) s m args below meth c D θ A 3 0 0 (QEi below args s D θ A 0 0 ρ) κ [(0, .ref x0), (1, .int x1), (2, .int x2)] [] 4 := by
  intro n
  induction n with
  | zero =>
    intro x0 x1 x2 κ h
    exact absurd h (by simp [b_Notes_last_4])
  | succ n ih =>
    intro x0 x1 x2 κ h
    rw [b_Notes_last_4] at h
    refine j_iload_n K 2 d_Notes_last_4 rfl rfl ?_
    refine j_aload_n K 0 d_Notes_last_5 rfl rfl ?_
    obtain ⟨q1, h⟩ := ck_e h
    refine eg_Notes_size K ef_Notes_21 q1 d_Notes_last_6 ?_
    refine j_icmp_ge (tgt := 29) K d_Notes_last_9 (by decide) (fun q => ?_) (fun q => ?_)
    · have h := if_t h q
      refine j_iload_n K 1 d_Notes_last_29 rfl rfl ?_
      exact eret_i K h hr hlk d_Notes_last_30
    · have h := if_f h q
      refine j_iload_n K 1 d_Notes_last_12 rfl rfl ?_
      refine j_aload_n K 0 d_Notes_last_13 rfl rfl ?_
      refine eg_Notes_behind K ef_Notes_9 q1 d_Notes_last_14 ?_
      obtain ⟨o2, e2, h⟩ := bo_e h
      refine j_eqq e2 ?_
      refine j_iload_n K 2 d_Notes_last_17 rfl rfl ?_
      obtain ⟨q3, h⟩ := ck_e h
      obtain ⟨q4, h⟩ := ck_e h
      refine e_iald K q3 (inb_e q4) d_Notes_last_18 ?_
      refine e_mmax K el_Notes_25 es_mmax ei_Math ec_mmax (by decide) (Nat.le_of_ble_eq_true rfl) (Nat.le_of_ble_eq_true rfl) (Nat.le_of_ble_eq_true rfl) d_Notes_last_19 ?_
      obtain ⟨v5, e5, h⟩ := lt_e h
      refine j_eqi e5 ?_
      refine j_istore_n (lv' := [(1, .int v5), (0, .ref x0), (2, .int x2)]) K d_Notes_last_22 rfl (by decide) rfl ?_
      obtain ⟨v6, e6, h⟩ := lt_e h
      refine j_iinc (k := 2) (v := v6) (lv' := [(2, .int v6), (1, .int v5), (0, .ref x0)]) K d_Notes_last_23 rfl (by rw [e6]; rfl) (by decide) rfl ?_
      refine j_goto (tgt := 4) K d_Notes_last_26 (by decide) ?_
      refine j_sub [2, 1, 0] rfl ?_
      exact ih x0 v5 v6 κ h
def p_Notes_last (N : Nat) (this : Nat) (κ : Cz) : Option (Int32 × Cz) := b_Notes_last_4 N N this (-1) 0 κ
set_option maxHeartbeats 4000000 in
set_option maxRecDepth 100000 in
theorem c_Notes_last_ok (l : Launch) (D : va_G) (θ : Tc) (N : Nat) (this : Nat) (κ : Cz) (ρ : Int32 × Cz) (h : p_Notes_last N this κ = some ρ) : CEi l D θ y_Notes_last c_Notes_last 3 (some .int) 1 0 0 [.ref this] κ ρ := by
  intro sz
  refine e_met l [.ref this] (by decide +kernel) (Nat.le_of_ble_eq_true rfl) ?_
  intro p e s m args below meth c K hN hr hlk hnm hs
  generalize va_A (wE θ κ) sz = A at K ⊢
  have K : KE p s m args c c_Notes_last 3 "ErrataRow$Notes" y_Notes_last (some .int) D θ A := K
  show JE p l e (rmA 1 0 0) s m args below meth c D θ A 3 0 0 (QEi below args s D θ A 0 0 ρ) κ [(0, .ref this)] [] 0
  unfold p_Notes_last at h
  refine j_iconst (v := (-1)) K d_Notes_last_0 (by decide) ?_
  refine j_istore_n (lv' := [(1, .int (-1)), (0, .ref this)]) K d_Notes_last_1 rfl (by decide) rfl ?_
  refine j_iconst (v := 0) K d_Notes_last_2 (by decide) ?_
  refine j_istore_n (lv' := [(2, .int 0), (1, .int (-1)), (0, .ref this)]) K d_Notes_last_3 rfl (by decide) rfl ?_
  refine j_sub [2, 1, 0] rfl ?_
  exact t_Notes_last_4 K hN hr hlk N ρ N this (-1) 0 κ h
def b_Notes_isSo_2 (N : Nat) : Nat → Nat → Int32 → Nat → Int32 → Cz → Option (Int32 × Cz)
  | 0, _, _, _, _, _ => none
  | n + 1, x0, x1, x2, x3, κ => ck (isK κ x0 3) (if (fi κ x0 0) ≤ x3 then some (1, κ) else bo (fr κ x0 1) (fun o2 => ck (isK κ o2 20) (ck (inb x3 (ln κ o2)) (if (ai κ o2 x3.toNatClampNeg) = x1 then bo (fr κ x0 2) (fun o6 => ck (isK κ o6 20) (ck (inb x3 (ln κ o6)) (lt (ai κ o6 x3.toNatClampNeg) (fun v9 => ck (isK κ x2 20) (ck (inb v9 (ln κ x2)) (bo (fr κ x0 3) (fun o12 => ck (isK κ o12 20) (ck (inb x3 (ln κ o12)) (if (ai κ x2 v9.toNatClampNeg) = (ai κ o12 x3.toNatClampNeg) then lt (x3 + 1) (fun v15 => b_Notes_isSo_2 N n x0 x1 x2 v15 κ) else some (0, κ)))))))))) else lt (x3 + 1) (fun v5 => b_Notes_isSo_2 N n x0 x1 x2 v5 κ)))))
set_option maxHeartbeats 4000000 in
set_option maxRecDepth 100000 in
theorem t_Notes_isSo_2 {p : Program} {l : Launch} {e : Env} {s : State} {m : MethodId} {args : Array Value} {below : List Frame} {meth : Method} {c : Code} {D : va_G} {θ : Tc} {A : Nat → Prop} (K : KE p s m args c c_Notes_isSo 4 "ErrataRow$Notes" y_Notes_isSo (some .boolean) D θ A) (hN : NX s) (hr : meth.sig.returnType = (some .boolean)) (hlk : meth.locks = false) (N : Nat) (ρ : Int32 × Cz) : ∀ (n : Nat) (x0 : Nat) (x1 : Int32) (x2 : Nat) (x3 : Int32) (κ : Cz), b_Notes_isSo_2 N n x0 x1 x2 x3 κ = some ρ → JE p l e (rmA 1 0 0) s m args below meth c D θ A 4 0 0 (QEi below args s D θ A 0 0 ρ) κ [(0, .ref x0), (1, .int x1), (2, .ref x2), (3, .int x3)] [] 2 := by
  intro n
  induction n with
  | zero =>
    intro x0 x1 x2 x3 κ h
    exact absurd h (by simp [b_Notes_isSo_2])
  | succ n ih =>
    intro x0 x1 x2 x3 κ h
    rw [b_Notes_isSo_2] at h
    refine j_iload_n K 3 d_Notes_isSo_2 rfl rfl ?_
    refine j_aload_n K 0 d_Notes_isSo_3 rfl rfl ?_
    obtain ⟨q1, h⟩ := ck_e h
    refine eg_Notes_size K ef_Notes_21 q1 d_Notes_isSo_4 ?_
    refine j_icmp_ge (tgt := 45) K d_Notes_isSo_7 (by decide) (fun q => ?_) (fun q => ?_)
    · have h := if_t h q
      refine j_iconst (v := 1) K d_Notes_isSo_45 (by decide) ?_
      exact eret_z K h rfl hr hlk d_Notes_isSo_46
    · have h := if_f h q
      refine j_aload_n K 0 d_Notes_isSo_10 rfl rfl ?_
      refine eg_Notes_behind K ef_Notes_9 q1 d_Notes_isSo_11 ?_
      obtain ⟨o2, e2, h⟩ := bo_e h
      refine j_eqq e2 ?_
      refine j_iload_n K 3 d_Notes_isSo_14 rfl rfl ?_
      obtain ⟨q3, h⟩ := ck_e h
      obtain ⟨q4, h⟩ := ck_e h
      refine e_iald K q3 (inb_e q4) d_Notes_isSo_15 ?_
      refine j_iload_n K 1 d_Notes_isSo_16 rfl rfl ?_
      refine j_icmp_ne (tgt := 39) K d_Notes_isSo_17 (by decide) (fun q => ?_) (fun q => ?_)
      · have h := if_f h q
        obtain ⟨v5, e5, h⟩ := lt_e h
        refine j_iinc (k := 3) (v := v5) (lv' := [(3, .int v5), (0, .ref x0), (1, .int x1), (2, .ref x2)]) K d_Notes_isSo_39 rfl (by rw [e5]; rfl) (by decide) rfl ?_
        refine j_goto (tgt := 2) K d_Notes_isSo_42 (by decide) ?_
        refine j_sub [1, 2, 3, 0] rfl ?_
        exact ih x0 x1 x2 v5 κ h
      · have h := if_t h q
        refine j_aload_n K 2 d_Notes_isSo_20 rfl rfl ?_
        refine j_aload_n K 0 d_Notes_isSo_21 rfl rfl ?_
        refine eg_Notes_letters K ef_Notes_15 q1 d_Notes_isSo_22 ?_
        obtain ⟨o6, e6, h⟩ := bo_e h
        refine j_eqq e6 ?_
        refine j_iload_n K 3 d_Notes_isSo_25 rfl rfl ?_
        obtain ⟨q7, h⟩ := ck_e h
        obtain ⟨q8, h⟩ := ck_e h
        refine e_iald K q7 (inb_e q8) d_Notes_isSo_26 ?_
        obtain ⟨v9, e9, h⟩ := lt_e h
        refine j_eqi e9 ?_
        obtain ⟨q10, h⟩ := ck_e h
        obtain ⟨q11, h⟩ := ck_e h
        refine e_iald K q10 (inb_e q11) d_Notes_isSo_27 ?_
        refine j_aload_n K 0 d_Notes_isSo_28 rfl rfl ?_
        refine eg_Notes_puts K ef_Notes_18 q1 d_Notes_isSo_29 ?_
        obtain ⟨o12, e12, h⟩ := bo_e h
        refine j_eqq e12 ?_
        refine j_iload_n K 3 d_Notes_isSo_32 rfl rfl ?_
        obtain ⟨q13, h⟩ := ck_e h
        obtain ⟨q14, h⟩ := ck_e h
        refine e_iald K q13 (inb_e q14) d_Notes_isSo_33 ?_
        refine j_icmp_eq (tgt := 39) K d_Notes_isSo_34 (by decide) (fun q => ?_) (fun q => ?_)
        · have h := if_t h q
          obtain ⟨v15, e15, h⟩ := lt_e h
          refine j_iinc (k := 3) (v := v15) (lv' := [(3, .int v15), (0, .ref x0), (1, .int x1), (2, .ref x2)]) K d_Notes_isSo_39 rfl (by rw [e15]; rfl) (by decide) rfl ?_
          refine j_goto (tgt := 2) K d_Notes_isSo_42 (by decide) ?_
          refine j_sub [1, 2, 3, 0] rfl ?_
          exact ih x0 x1 x2 v15 κ h
        · have h := if_f h q
          refine j_iconst (v := 0) K d_Notes_isSo_37 (by decide) ?_
          exact eret_z K h rfl hr hlk d_Notes_isSo_38
def p_Notes_isSo (N : Nat) (this : Nat) (a1 : Int32) (a2 : Nat) (κ : Cz) : Option (Int32 × Cz) := b_Notes_isSo_2 N N this a1 a2 0 κ
set_option maxHeartbeats 4000000 in
set_option maxRecDepth 100000 in
theorem c_Notes_isSo_ok (l : Launch) (D : va_G) (θ : Tc) (N : Nat) (this : Nat) (a1 : Int32) (a2 : Nat) (κ : Cz) (ρ : Int32 × Cz) (h : p_Notes_isSo N this a1 a2 κ = some ρ) : CEi l D θ y_Notes_isSo c_Notes_isSo 4 (some .boolean) 1 0 0 [.ref this, .int a1, .ref a2] κ ρ := by
  intro sz
  refine e_met l [.ref this, .int a1, .ref a2] (by decide +kernel) (Nat.le_of_ble_eq_true rfl) ?_
  intro p e s m args below meth c K hN hr hlk hnm hs
  generalize va_A (wE θ κ) sz = A at K ⊢
  have K : KE p s m args c c_Notes_isSo 4 "ErrataRow$Notes" y_Notes_isSo (some .boolean) D θ A := K
  show JE p l e (rmA 1 0 0) s m args below meth c D θ A 4 0 0 (QEi below args s D θ A 0 0 ρ) κ [(0, .ref this), (1, .int a1), (2, .ref a2)] [] 0
  unfold p_Notes_isSo at h
  refine j_iconst (v := 0) K d_Notes_isSo_0 (by decide) ?_
  refine j_istore_n (lv' := [(3, .int 0), (0, .ref this), (1, .int a1), (2, .ref a2)]) K d_Notes_isSo_1 rfl (by decide) rfl ?_
  refine j_sub [1, 2, 3, 0] rfl ?_
  exact t_Notes_isSo_2 K hN hr hlk N ρ N this a1 a2 0 κ h
def p_Notes_copyFrom (N : Nat) (this : Nat) (a1 : Nat) (κ : Cz) : Option (Cz) := ck (isK κ a1 3) (lt (fi κ a1 0) (fun v2 => ck (isK κ this 3) (lt (sfi this 0 v2 κ) (fun κ4 => bo (fr κ4 a1 1) (fun o5 => bo (fr κ4 this 1) (fun o6 => ck (isK κ4 o5 20) (ck (isK κ4 o6 20) (ck (decide ((0 : Int32).toNatClampNeg + (10 : Int32).toNatClampNeg ≤ ln κ4 o5)) (ck (decide ((0 : Int32).toNatClampNeg + (10 : Int32).toNatClampNeg ≤ ln κ4 o6)) (lt (sai o6 (va_cpy (ai κ4 o5) (ai κ4 o6) (0 : Int32).toNatClampNeg (0 : Int32).toNatClampNeg (10 : Int32).toNatClampNeg) κ4) (fun κ11 => bo (fr κ11 a1 2) (fun o12 => bo (fr κ11 this 2) (fun o13 => ck (isK κ11 o12 20) (ck (isK κ11 o13 20) (ck (decide ((0 : Int32).toNatClampNeg + (10 : Int32).toNatClampNeg ≤ ln κ11 o12)) (ck (decide ((0 : Int32).toNatClampNeg + (10 : Int32).toNatClampNeg ≤ ln κ11 o13)) (lt (sai o13 (va_cpy (ai κ11 o12) (ai κ11 o13) (0 : Int32).toNatClampNeg (0 : Int32).toNatClampNeg (10 : Int32).toNatClampNeg) κ11) (fun κ18 => bo (fr κ18 a1 3) (fun o19 => bo (fr κ18 this 3) (fun o20 => ck (isK κ18 o19 20) (ck (isK κ18 o20 20) (ck (decide ((0 : Int32).toNatClampNeg + (10 : Int32).toNatClampNeg ≤ ln κ18 o19)) (ck (decide ((0 : Int32).toNatClampNeg + (10 : Int32).toNatClampNeg ≤ ln κ18 o20)) (lt (sai o20 (va_cpy (ai κ18 o19) (ai κ18 o20) (0 : Int32).toNatClampNeg (0 : Int32).toNatClampNeg (10 : Int32).toNatClampNeg) κ18) (fun κ25 => some κ25)))))))))))))))))))))))))
set_option maxHeartbeats 4000000 in
set_option maxRecDepth 100000 in
theorem c_Notes_copyFrom_ok (l : Launch) (D : va_G) (θ : Tc) (N : Nat) (this : Nat) (a1 : Nat) (κ : Cz) (ρ : Cz) (h : p_Notes_copyFrom N this a1 κ = some ρ) : CEv l D θ y_Notes_copyFrom c_Notes_copyFrom 2 none 1 0 0 [.ref this, .ref a1] κ ρ := by
  intro sz
  refine e_met l [.ref this, .ref a1] (by decide +kernel) (Nat.le_of_ble_eq_true rfl) ?_
  intro p e s m args below meth c K hN hr hlk hnm hs
  generalize va_A (wE θ κ) sz = A at K ⊢
  have K : KE p s m args c c_Notes_copyFrom 2 "ErrataRow$Notes" y_Notes_copyFrom none D θ A := K
  show JE p l e (rmA 1 0 0) s m args below meth c D θ A 2 0 0 (QEv below args s D θ A 0 0 ρ) κ [(0, .ref this), (1, .ref a1)] [] 0
  unfold p_Notes_copyFrom at h
  refine j_aload_n K 0 d_Notes_copyFrom_0 rfl rfl ?_
  refine j_aload_n K 1 d_Notes_copyFrom_1 rfl rfl ?_
  obtain ⟨q1, h⟩ := ck_e h
  refine eg_Notes_size K ef_Notes_21 q1 d_Notes_copyFrom_2 ?_
  obtain ⟨v2, e2, h⟩ := lt_e h
  refine j_eqi e2 ?_
  obtain ⟨q3, h⟩ := ck_e h
  obtain ⟨κ4, e4, h⟩ := lt_e h
  refine ep_Notes_size K ef_Notes_21 q3 d_Notes_copyFrom_5 e4 ?_
  refine j_aload_n K 1 d_Notes_copyFrom_8 rfl rfl ?_
  refine eg_Notes_behind K ef_Notes_9 (isK_sfi e4 q1) d_Notes_copyFrom_9 ?_
  obtain ⟨o5, e5, h⟩ := bo_e h
  refine j_eqq e5 ?_
  refine j_iconst (v := 0) K d_Notes_copyFrom_12 (by decide) ?_
  refine j_aload_n K 0 d_Notes_copyFrom_13 rfl rfl ?_
  refine eg_Notes_behind K ef_Notes_9 (isK_sfi e4 q3) d_Notes_copyFrom_14 ?_
  obtain ⟨o6, e6, h⟩ := bo_e h
  refine j_eqq e6 ?_
  refine j_iconst (v := 0) K d_Notes_copyFrom_17 (by decide) ?_
  refine j_bipush (v := 10) K d_Notes_copyFrom_18 (by decide) ?_
  obtain ⟨q7, h⟩ := ck_e h
  obtain ⟨q8, h⟩ := ck_e h
  obtain ⟨q9, h⟩ := ck_e h
  obtain ⟨q10, h⟩ := ck_e h
  obtain ⟨κ11, e11, h⟩ := lt_e h
  refine e_copy K el_Notes_31 en_copy es_copy ei_System q7 q8 (by decide) (by decide) (by decide) (of_decide_eq_true q9) (of_decide_eq_true q10) (by decide) (Nat.le_of_ble_eq_true rfl) d_Notes_copyFrom_20 e11 ?_
  refine j_aload_n K 1 d_Notes_copyFrom_23 rfl rfl ?_
  refine eg_Notes_letters K ef_Notes_15 (isK_sai e11 (isK_sfi e4 q1)) d_Notes_copyFrom_24 ?_
  obtain ⟨o12, e12, h⟩ := bo_e h
  refine j_eqq e12 ?_
  refine j_iconst (v := 0) K d_Notes_copyFrom_27 (by decide) ?_
  refine j_aload_n K 0 d_Notes_copyFrom_28 rfl rfl ?_
  refine eg_Notes_letters K ef_Notes_15 (isK_sai e11 (isK_sfi e4 q3)) d_Notes_copyFrom_29 ?_
  obtain ⟨o13, e13, h⟩ := bo_e h
  refine j_eqq e13 ?_
  refine j_iconst (v := 0) K d_Notes_copyFrom_32 (by decide) ?_
  refine j_bipush (v := 10) K d_Notes_copyFrom_33 (by decide) ?_
  obtain ⟨q14, h⟩ := ck_e h
  obtain ⟨q15, h⟩ := ck_e h
  obtain ⟨q16, h⟩ := ck_e h
  obtain ⟨q17, h⟩ := ck_e h
  obtain ⟨κ18, e18, h⟩ := lt_e h
  refine e_copy K el_Notes_31 en_copy es_copy ei_System q14 q15 (by decide) (by decide) (by decide) (of_decide_eq_true q16) (of_decide_eq_true q17) (by decide) (Nat.le_of_ble_eq_true rfl) d_Notes_copyFrom_35 e18 ?_
  refine j_aload_n K 1 d_Notes_copyFrom_38 rfl rfl ?_
  refine eg_Notes_puts K ef_Notes_18 (isK_sai e18 (isK_sai e11 (isK_sfi e4 q1))) d_Notes_copyFrom_39 ?_
  obtain ⟨o19, e19, h⟩ := bo_e h
  refine j_eqq e19 ?_
  refine j_iconst (v := 0) K d_Notes_copyFrom_42 (by decide) ?_
  refine j_aload_n K 0 d_Notes_copyFrom_43 rfl rfl ?_
  refine eg_Notes_puts K ef_Notes_18 (isK_sai e18 (isK_sai e11 (isK_sfi e4 q3))) d_Notes_copyFrom_44 ?_
  obtain ⟨o20, e20, h⟩ := bo_e h
  refine j_eqq e20 ?_
  refine j_iconst (v := 0) K d_Notes_copyFrom_47 (by decide) ?_
  refine j_bipush (v := 10) K d_Notes_copyFrom_48 (by decide) ?_
  obtain ⟨q21, h⟩ := ck_e h
  obtain ⟨q22, h⟩ := ck_e h
  obtain ⟨q23, h⟩ := ck_e h
  obtain ⟨q24, h⟩ := ck_e h
  obtain ⟨κ25, e25, h⟩ := lt_e h
  refine e_copy K el_Notes_31 en_copy es_copy ei_System q21 q22 (by decide) (by decide) (by decide) (of_decide_eq_true q23) (of_decide_eq_true q24) (by decide) (Nat.le_of_ble_eq_true rfl) d_Notes_copyFrom_50 e25 ?_
  exact eret_v K h hr hlk d_Notes_copyFrom_53
def b_Press_wrongOf_4 (N : Nat) : Nat → Nat → Nat → Int32 → Int32 → Cz → Option (Int32 × Cz)
  | 0, _, _, _, _, _ => none
  | n + 1, x0, x1, x2, x3, κ => ck (isK κ x0 4) (bo (fr κ x0 0) (fun o2 => ck (isK κ o2 0) (if (fi κ o2 2) ≤ x3 then some (x2, κ) else ck (isK κ x1 8) (bo (fr κ x1 0) (fun o5 => ck (isK κ o5 20) (ck (inb x3 (ln κ o5)) (bo (fr κ x0 0) (fun o8 => ck (isK κ o8 0) (bo (fr κ o8 4) (fun o10 => ck (isK κ o10 20) (ck (inb x3 (ln κ o10)) (if (ai κ o5 x3.toNatClampNeg) = (ai κ o10 x3.toNatClampNeg) then lt (x3 + 1) (fun v13 => b_Press_wrongOf_4 N n x0 x1 x2 v13 κ) else lt (x2 ||| ((1 : Int32) <<< (x3 &&& 31))) (fun v14 => lt (x3 + 1) (fun v15 => b_Press_wrongOf_4 N n x0 x1 v14 v15 κ))))))))))))))
set_option maxHeartbeats 4000000 in
set_option maxRecDepth 100000 in
theorem t_Press_wrongOf_4 {p : Program} {l : Launch} {e : Env} {s : State} {m : MethodId} {args : Array Value} {below : List Frame} {meth : Method} {c : Code} {D : va_G} {θ : Tc} {A : Nat → Prop} (K : KE p s m args c c_Press_wrongOf 4 "ErrataRow$Press" y_Press_wrongOf (some .int) D θ A) (hN : NX s) (hr : meth.sig.returnType = (some .int)) (hlk : meth.locks = false) (N : Nat) (ρ : Int32 × Cz) : ∀ (n : Nat) (x0 : Nat) (x1 : Nat) (x2 : Int32) (x3 : Int32) (κ : Cz), b_Press_wrongOf_4 N n x0 x1 x2 x3 κ = some ρ → JE p l e (rmA 1 0 0) s m args below meth c D θ A 4 0 0 (QEi below args s D θ A 0 0 ρ) κ [(0, .ref x0), (1, .ref x1), (2, .int x2), (3, .int x3)] [] 4 := by
  intro n
  induction n with
  | zero =>
    intro x0 x1 x2 x3 κ h
    exact absurd h (by simp [b_Press_wrongOf_4])
  | succ n ih =>
    intro x0 x1 x2 x3 κ h
    rw [b_Press_wrongOf_4] at h
    refine j_iload_n K 3 d_Press_wrongOf_4 rfl rfl ?_
    refine j_aload_n K 0 d_Press_wrongOf_5 rfl rfl ?_
    obtain ⟨q1, h⟩ := ck_e h
    refine eg_Press_book K ef_Press_21 q1 d_Press_wrongOf_6 ?_
    obtain ⟨o2, e2, h⟩ := bo_e h
    refine j_eqq e2 ?_
    obtain ⟨q3, h⟩ := ck_e h
    refine eg_Book_letters K ef_Press_25 q3 d_Press_wrongOf_9 ?_
    refine j_icmp_ge (tgt := 45) K d_Press_wrongOf_12 (by decide) (fun q => ?_) (fun q => ?_)
    · have h := if_t h q
      refine j_iload_n K 2 d_Press_wrongOf_45 rfl rfl ?_
      exact eret_i K h hr hlk d_Press_wrongOf_46
    · have h := if_f h q
      refine j_aload_n K 1 d_Press_wrongOf_15 rfl rfl ?_
      obtain ⟨q4, h⟩ := ck_e h
      refine eg_State_put K ef_Press_30 q4 d_Press_wrongOf_16 ?_
      obtain ⟨o5, e5, h⟩ := bo_e h
      refine j_eqq e5 ?_
      refine j_iload_n K 3 d_Press_wrongOf_19 rfl rfl ?_
      obtain ⟨q6, h⟩ := ck_e h
      obtain ⟨q7, h⟩ := ck_e h
      refine e_iald K q6 (inb_e q7) d_Press_wrongOf_20 ?_
      refine j_aload_n K 0 d_Press_wrongOf_21 rfl rfl ?_
      refine eg_Press_book K ef_Press_21 q1 d_Press_wrongOf_22 ?_
      obtain ⟨o8, e8, h⟩ := bo_e h
      refine j_eqq e8 ?_
      obtain ⟨q9, h⟩ := ck_e h
      refine eg_Book_meant K ef_Press_36 q9 d_Press_wrongOf_25 ?_
      obtain ⟨o10, e10, h⟩ := bo_e h
      refine j_eqq e10 ?_
      refine j_iload_n K 3 d_Press_wrongOf_28 rfl rfl ?_
      obtain ⟨q11, h⟩ := ck_e h
      obtain ⟨q12, h⟩ := ck_e h
      refine e_iald K q11 (inb_e q12) d_Press_wrongOf_29 ?_
      refine j_icmp_eq (tgt := 39) K d_Press_wrongOf_30 (by decide) (fun q => ?_) (fun q => ?_)
      · have h := if_t h q
        obtain ⟨v13, e13, h⟩ := lt_e h
        refine j_iinc (k := 3) (v := v13) (lv' := [(3, .int v13), (0, .ref x0), (1, .ref x1), (2, .int x2)]) K d_Press_wrongOf_39 rfl (by rw [e13]; rfl) (by decide) rfl ?_
        refine j_goto (tgt := 4) K d_Press_wrongOf_42 (by decide) ?_
        refine j_sub [1, 2, 3, 0] rfl ?_
        exact ih x0 x1 x2 v13 κ h
      · have h := if_f h q
        refine j_iload_n K 2 d_Press_wrongOf_33 rfl rfl ?_
        refine j_iconst (v := 1) K d_Press_wrongOf_34 (by decide) ?_
        refine j_iload_n K 3 d_Press_wrongOf_35 rfl rfl ?_
        refine j_ishl K d_Press_wrongOf_36 ?_
        refine j_ior K d_Press_wrongOf_37 ?_
        obtain ⟨v14, e14, h⟩ := lt_e h
        refine j_eqi e14 ?_
        refine j_istore_n (lv' := [(2, .int v14), (0, .ref x0), (1, .ref x1), (3, .int x3)]) K d_Press_wrongOf_38 rfl (by decide) rfl ?_
        obtain ⟨v15, e15, h⟩ := lt_e h
        refine j_iinc (k := 3) (v := v15) (lv' := [(3, .int v15), (2, .int v14), (0, .ref x0), (1, .ref x1)]) K d_Press_wrongOf_39 rfl (by rw [e15]; rfl) (by decide) rfl ?_
        refine j_goto (tgt := 4) K d_Press_wrongOf_42 (by decide) ?_
        refine j_sub [2, 3, 1, 0] rfl ?_
        exact ih x0 x1 v14 v15 κ h
def p_Press_wrongOf (N : Nat) (this : Nat) (a1 : Nat) (κ : Cz) : Option (Int32 × Cz) := b_Press_wrongOf_4 N N this a1 0 0 κ
set_option maxHeartbeats 4000000 in
set_option maxRecDepth 100000 in
theorem c_Press_wrongOf_ok (l : Launch) (D : va_G) (θ : Tc) (N : Nat) (this : Nat) (a1 : Nat) (κ : Cz) (ρ : Int32 × Cz) (h : p_Press_wrongOf N this a1 κ = some ρ) : CEi l D θ y_Press_wrongOf c_Press_wrongOf 4 (some .int) 1 0 0 [.ref this, .ref a1] κ ρ := by
  intro sz
  refine e_met l [.ref this, .ref a1] (by decide +kernel) (Nat.le_of_ble_eq_true rfl) ?_
  intro p e s m args below meth c K hN hr hlk hnm hs
  generalize va_A (wE θ κ) sz = A at K ⊢
  have K : KE p s m args c c_Press_wrongOf 4 "ErrataRow$Press" y_Press_wrongOf (some .int) D θ A := K
  show JE p l e (rmA 1 0 0) s m args below meth c D θ A 4 0 0 (QEi below args s D θ A 0 0 ρ) κ [(0, .ref this), (1, .ref a1)] [] 0
  unfold p_Press_wrongOf at h
  refine j_iconst (v := 0) K d_Press_wrongOf_0 (by decide) ?_
  refine j_istore_n (lv' := [(2, .int 0), (0, .ref this), (1, .ref a1)]) K d_Press_wrongOf_1 rfl (by decide) rfl ?_
  refine j_iconst (v := 0) K d_Press_wrongOf_2 (by decide) ?_
  refine j_istore_n (lv' := [(3, .int 0), (2, .int 0), (0, .ref this), (1, .ref a1)]) K d_Press_wrongOf_3 rfl (by decide) rfl ?_
  refine j_sub [2, 3, 1, 0] rfl ?_
  exact t_Press_wrongOf_4 K hN hr hlk N ρ N this a1 0 0 κ h
def p_Press_habitOf (N : Nat) (this : Nat) (a1 : Nat) (κ : Cz) : Option (Int32 × Cz) := ck (isK κ this 4) (bo (fr κ this 0) (fun o2 => ck (isK κ o2 0) (if (fi κ o2 3) ≤ 0 then some (0, κ) else ck (isK κ a1 8) (bo (fr κ this 0) (fun o5 => ck (isK κ o5 0) (lt (fi κ o5 3) (fun v7 => ck (nz v7) (some ((fi κ a1 5) - (fi κ a1 5) / v7 * v7, κ)))))))))
set_option maxHeartbeats 4000000 in
set_option maxRecDepth 100000 in
theorem c_Press_habitOf_ok (l : Launch) (D : va_G) (θ : Tc) (N : Nat) (this : Nat) (a1 : Nat) (κ : Cz) (ρ : Int32 × Cz) (h : p_Press_habitOf N this a1 κ = some ρ) : CEi l D θ y_Press_habitOf c_Press_habitOf 2 (some .int) 1 0 0 [.ref this, .ref a1] κ ρ := by
  intro sz
  refine e_met l [.ref this, .ref a1] (by decide +kernel) (Nat.le_of_ble_eq_true rfl) ?_
  intro p e s m args below meth c K hN hr hlk hnm hs
  generalize va_A (wE θ κ) sz = A at K ⊢
  have K : KE p s m args c c_Press_habitOf 2 "ErrataRow$Press" y_Press_habitOf (some .int) D θ A := K
  show JE p l e (rmA 1 0 0) s m args below meth c D θ A 2 0 0 (QEi below args s D θ A 0 0 ρ) κ [(0, .ref this), (1, .ref a1)] [] 0
  unfold p_Press_habitOf at h
  refine j_aload_n K 0 d_Press_habitOf_0 rfl rfl ?_
  obtain ⟨q1, h⟩ := ck_e h
  refine eg_Press_book K ef_Press_21 q1 d_Press_habitOf_1 ?_
  obtain ⟨o2, e2, h⟩ := bo_e h
  refine j_eqq e2 ?_
  obtain ⟨q3, h⟩ := ck_e h
  refine eg_Book_habits K ef_Press_97 q3 d_Press_habitOf_4 ?_
  refine j_if_le (tgt := 25) K d_Press_habitOf_7 (by decide) (fun q => ?_) (fun q => ?_)
  · have h := if_t h q
    refine j_iconst (v := 0) K d_Press_habitOf_25 (by decide) ?_
    exact eret_i K h hr hlk d_Press_habitOf_26
  · have h := if_f h q
    refine j_aload_n K 1 d_Press_habitOf_10 rfl rfl ?_
    obtain ⟨q4, h⟩ := ck_e h
    refine eg_State_edition K ef_Press_74 q4 d_Press_habitOf_11 ?_
    refine j_aload_n K 0 d_Press_habitOf_14 rfl rfl ?_
    refine eg_Press_book K ef_Press_21 q1 d_Press_habitOf_15 ?_
    obtain ⟨o5, e5, h⟩ := bo_e h
    refine j_eqq e5 ?_
    obtain ⟨q6, h⟩ := ck_e h
    refine eg_Book_habits K ef_Press_97 q6 d_Press_habitOf_18 ?_
    obtain ⟨v7, e7, h⟩ := lt_e h
    refine j_eqi e7 ?_
    obtain ⟨q8, h⟩ := ck_e h
    refine j_irem K d_Press_habitOf_21 (nz_e q8) ?_
    refine j_goto (tgt := 26) K d_Press_habitOf_22 (by decide) ?_
    exact eret_i K h hr hlk d_Press_habitOf_26
def p_Press_payOne (N : Nat) (this : Nat) (a1 : Nat) (a2 : Int32) (κ : Cz) : Option (Cz) := ck (isK κ a1 8) (ck (isK κ this 4) (bo (fr κ this 0) (fun o3 => ck (isK κ o3 0) (if (fi κ a1 3) < (fi κ o3 1) then lt (if 999 < ((fi κ a1 4) + 1) then 999 else ((fi κ a1 4) + 1)) (fun v5 => lt (sfi a1 4 v5 κ) (fun κ6 => lt ((fi κ6 this 5) ||| ((1 : Int32) <<< (a2 &&& 31))) (fun v7 => lt (sfi this 5 v7 κ6) (fun κ8 => some κ8)))) else bo (fr κ this 0) (fun o9 => ck (isK κ o9 0) (lt ((fi κ a1 3) - (fi κ o9 1)) (fun v11 => lt (sfi a1 3 v11 κ) (fun κ12 => bo (fr κ12 a1 1) (fun o13 => bo (fr κ12 a1 1) (fun o14 => ck (isK κ12 o14 20) (ck (inb a2 (ln κ12 o14)) (lt (if 999 < ((ai κ12 o14 a2.toNatClampNeg) + 1) then 999 else ((ai κ12 o14 a2.toNatClampNeg) + 1)) (fun v17 => ck (isK κ12 o13 20) (ck (inb a2 (ln κ12 o13)) (lt (sai o13 (upd (ai κ12 o13) a2.toNatClampNeg v17) κ12) (fun κ20 => lt ((fi κ20 this 4) ||| ((1 : Int32) <<< (a2 &&& 31))) (fun v21 => lt (sfi this 4 v21 κ20) (fun κ22 => some κ22))))))))))))))))))
set_option maxHeartbeats 4000000 in
set_option maxRecDepth 100000 in
theorem c_Press_payOne_ok (l : Launch) (D : va_G) (θ : Tc) (N : Nat) (this : Nat) (a1 : Nat) (a2 : Int32) (κ : Cz) (ρ : Cz) (h : p_Press_payOne N this a1 a2 κ = some ρ) : CEv l D θ y_Press_payOne c_Press_payOne 3 none 1 0 0 [.ref this, .ref a1, .int a2] κ ρ := by
  intro sz
  refine e_met l [.ref this, .ref a1, .int a2] (by decide +kernel) (Nat.le_of_ble_eq_true rfl) ?_
  intro p e s m args below meth c K hN hr hlk hnm hs
  generalize va_A (wE θ κ) sz = A at K ⊢
  have K : KE p s m args c c_Press_payOne 3 "ErrataRow$Press" y_Press_payOne none D θ A := K
  show JE p l e (rmA 1 0 0) s m args below meth c D θ A 3 0 0 (QEv below args s D θ A 0 0 ρ) κ [(0, .ref this), (1, .ref a1), (2, .int a2)] [] 0
  unfold p_Press_payOne at h
  refine j_aload_n K 1 d_Press_payOne_0 rfl rfl ?_
  obtain ⟨q1, h⟩ := ck_e h
  refine eg_State_purse K ef_Press_103 q1 d_Press_payOne_1 ?_
  refine j_aload_n K 0 d_Press_payOne_4 rfl rfl ?_
  obtain ⟨q2, h⟩ := ck_e h
  refine eg_Press_book K ef_Press_21 q2 d_Press_payOne_5 ?_
  obtain ⟨o3, e3, h⟩ := bo_e h
  refine j_eqq e3 ?_
  obtain ⟨q4, h⟩ := ck_e h
  refine eg_Book_quarter K ef_Press_127 q4 d_Press_payOne_8 ?_
  refine j_icmp_lt (tgt := 65) K d_Press_payOne_11 (by decide) (fun q => ?_) (fun q => ?_)
  · have h := if_t h q
    refine j_aload_n K 1 d_Press_payOne_65 rfl rfl ?_
    refine j_aload_n K 1 d_Press_payOne_66 rfl rfl ?_
    refine eg_State_owed K ef_Press_106 q1 d_Press_payOne_67 ?_
    refine j_iconst (v := 1) K d_Press_payOne_70 (by decide) ?_
    refine j_iadd K d_Press_payOne_71 ?_
    refine j_sipush (v := 999) K d_Press_payOne_72 (by decide) ?_
    refine e_mmin K el_Press_130 es_mmin ei_Math ec_mmin (by decide) (Nat.le_of_ble_eq_true rfl) (Nat.le_of_ble_eq_true rfl) (Nat.le_of_ble_eq_true rfl) d_Press_payOne_75 ?_
    obtain ⟨v5, e5, h⟩ := lt_e h
    refine j_eqi e5 ?_
    obtain ⟨κ6, e6, h⟩ := lt_e h
    refine ep_State_owed K ef_Press_106 q1 d_Press_payOne_78 e6 ?_
    refine j_aload_n K 0 d_Press_payOne_81 rfl rfl ?_
    refine j_dup K d_Press_payOne_82 rfl ?_
    refine eg_Press_notPaid K ef_Press_121 (isK_sfi e6 q2) d_Press_payOne_83 ?_
    refine j_iconst (v := 1) K d_Press_payOne_86 (by decide) ?_
    refine j_iload_n K 2 d_Press_payOne_87 rfl rfl ?_
    refine j_ishl K d_Press_payOne_88 ?_
    refine j_ior K d_Press_payOne_89 ?_
    obtain ⟨v7, e7, h⟩ := lt_e h
    refine j_eqi e7 ?_
    obtain ⟨κ8, e8, h⟩ := lt_e h
    refine ep_Press_notPaid K ef_Press_121 (isK_sfi e6 q2) d_Press_payOne_90 e8 ?_
    exact eret_v K h hr hlk d_Press_payOne_93
  · have h := if_f h q
    refine j_aload_n K 1 d_Press_payOne_14 rfl rfl ?_
    refine j_dup K d_Press_payOne_15 rfl ?_
    refine eg_State_purse K ef_Press_103 q1 d_Press_payOne_16 ?_
    refine j_aload_n K 0 d_Press_payOne_19 rfl rfl ?_
    refine eg_Press_book K ef_Press_21 q2 d_Press_payOne_20 ?_
    obtain ⟨o9, e9, h⟩ := bo_e h
    refine j_eqq e9 ?_
    obtain ⟨q10, h⟩ := ck_e h
    refine eg_Book_quarter K ef_Press_127 q10 d_Press_payOne_23 ?_
    refine j_isub K d_Press_payOne_26 ?_
    obtain ⟨v11, e11, h⟩ := lt_e h
    refine j_eqi e11 ?_
    obtain ⟨κ12, e12, h⟩ := lt_e h
    refine ep_State_purse K ef_Press_103 q1 d_Press_payOne_27 e12 ?_
    refine j_aload_n K 1 d_Press_payOne_30 rfl rfl ?_
    refine eg_State_paid K ef_Press_115 (isK_sfi e12 q1) d_Press_payOne_31 ?_
    obtain ⟨o13, e13, h⟩ := bo_e h
    refine j_eqq e13 ?_
    refine j_iload_n K 2 d_Press_payOne_34 rfl rfl ?_
    refine j_aload_n K 1 d_Press_payOne_35 rfl rfl ?_
    refine eg_State_paid K ef_Press_115 (isK_sfi e12 q1) d_Press_payOne_36 ?_
    obtain ⟨o14, e14, h⟩ := bo_e h
    refine j_eqq e14 ?_
    refine j_iload_n K 2 d_Press_payOne_39 rfl rfl ?_
    obtain ⟨q15, h⟩ := ck_e h
    obtain ⟨q16, h⟩ := ck_e h
    refine e_iald K q15 (inb_e q16) d_Press_payOne_40 ?_
    refine j_iconst (v := 1) K d_Press_payOne_41 (by decide) ?_
    refine j_iadd K d_Press_payOne_42 ?_
    refine j_sipush (v := 999) K d_Press_payOne_43 (by decide) ?_
    refine e_mmin K el_Press_130 es_mmin ei_Math ec_mmin (by decide) (Nat.le_of_ble_eq_true rfl) (Nat.le_of_ble_eq_true rfl) (Nat.le_of_ble_eq_true rfl) d_Press_payOne_46 ?_
    obtain ⟨v17, e17, h⟩ := lt_e h
    refine j_eqi e17 ?_
    obtain ⟨q18, h⟩ := ck_e h
    obtain ⟨q19, h⟩ := ck_e h
    obtain ⟨κ20, e20, h⟩ := lt_e h
    refine e_iast K q18 (inb_e q19) d_Press_payOne_49 e20 ?_
    refine j_aload_n K 0 d_Press_payOne_50 rfl rfl ?_
    refine j_dup K d_Press_payOne_51 rfl ?_
    refine eg_Press_gotPaid K ef_Press_118 (isK_sai e20 (isK_sfi e12 q2)) d_Press_payOne_52 ?_
    refine j_iconst (v := 1) K d_Press_payOne_55 (by decide) ?_
    refine j_iload_n K 2 d_Press_payOne_56 rfl rfl ?_
    refine j_ishl K d_Press_payOne_57 ?_
    refine j_ior K d_Press_payOne_58 ?_
    obtain ⟨v21, e21, h⟩ := lt_e h
    refine j_eqi e21 ?_
    obtain ⟨κ22, e22, h⟩ := lt_e h
    refine ep_Press_gotPaid K ef_Press_118 (isK_sai e20 (isK_sfi e12 q2)) d_Press_payOne_59 e22 ?_
    refine j_goto (tgt := 93) K d_Press_payOne_62 (by decide) ?_
    exact eret_v K h hr hlk d_Press_payOne_93
def p_Rule_joined (N : Nat) (a1 : Int32) (a2 : Int64) (a3 : Int64) (κ : Cz) : Option (Int64 × Cz) := if a1.toInt < -31 ∨ -21 < a1.toInt then if (lg_cmp a2 a3) ≤ 0 then some (0, κ) else some (1, κ) else if a1 = (-31) then if (lg_cmp a2 a3) < 0 then some (0, κ) else some (1, κ) else if a1 = (-30) then if (lg_cmp a2 a3) = 0 then some (1, κ) else some (0, κ) else if a1 = (-29) then if 0 < (lg_cmp a2 a3) then some (0, κ) else some (1, κ) else if a1 = (-28) then if 0 ≤ (lg_cmp a2 a3) then some (0, κ) else some (1, κ) else if a1 = (-27) then if (lg_cmp a3 0) = 0 then some (0, κ) else ck (nzL a3) (some (a2 - a2 / a3 * a3, κ)) else if a1 = (-26) then if (lg_cmp a3 0) = 0 then some (0, κ) else ck (nzL a3) (some (a2 / a3, κ)) else if a1 = (-25) then some (a2 * a3, κ) else if a1 = (-24) then some (a2 - a3, κ) else if a1 = (-23) then some (a2 + a3, κ) else if a1 = (-22) then if (lg_cmp a2 0) = 0 then if (lg_cmp a3 0) = 0 then some (0, κ) else some (1, κ) else some (1, κ) else if a1 = (-21) then if (lg_cmp a2 0) = 0 then some (0, κ) else if (lg_cmp a3 0) = 0 then some (0, κ) else some (1, κ) else none
set_option maxHeartbeats 4000000 in
set_option maxRecDepth 100000 in
theorem c_Rule_joined_ok (l : Launch) (D : va_G) (θ : Tc) (N : Nat) (a1 : Int32) (a2 : Int64) (a3 : Int64) (κ : Cz) (ρ : Int64 × Cz) (h : p_Rule_joined N a1 a2 a3 κ = some ρ) : CEl l D θ y_Rule_joined c_Rule_joined 5 (some .long) 1 0 0 [.int a1, .long a2, .long a3] κ ρ := by
  intro sz
  refine e_met l [.int a1, .long a2, .long a3] (by decide +kernel) (Nat.le_of_ble_eq_true rfl) ?_
  intro p e s m args below meth c K hN hr hlk hnm hs
  generalize va_A (wE θ κ) sz = A at K ⊢
  have K : KE p s m args c c_Rule_joined 5 "ErrataRow$Rule" y_Rule_joined (some .long) D θ A := K
  show JE p l e (rmA 1 0 0) s m args below meth c D θ A 5 0 0 (QEl below args s D θ A 0 0 ρ) κ [(0, .int a1), (1, .long a2), (3, .long a3)] [] 0
  unfold p_Rule_joined at h
  refine j_iload_n K 0 d_Rule_joined_0 rfl rfl ?_
  by_cases q : a1.toInt < -31 ∨ -21 < a1.toInt
  · have h := if_t h q
    refine j_tabOut (tgt := 184) K d_Rule_joined_1 q (by decide) ?_
    refine j_lload_n K 1 d_Rule_joined_184 rfl rfl ?_
    refine j_lload_n K 2 d_Rule_joined_185 rfl rfl ?_
    refine j_lcmp K d_Rule_joined_186 ?_
    refine j_if_le (tgt := 194) K d_Rule_joined_187 (by decide) (fun q => ?_) (fun q => ?_)
    · have h := if_t h q
      refine j_lconst (v := 0) K d_Rule_joined_194 (by decide) ?_
      exact eret_l K h hr hlk d_Rule_joined_195
    · have h := if_f h q
      refine j_lconst (v := 1) K d_Rule_joined_190 (by decide) ?_
      refine j_goto (tgt := 195) K d_Rule_joined_191 (by decide) ?_
      exact eret_l K h hr hlk d_Rule_joined_195
  · have h := if_f h q
    by_cases q : a1 = (-31)
    · have h := if_t h q
      have q1 : a1.toInt = (-31) := by rw [q]; decide
      refine j_tabIn (tgt := 172) K d_Rule_joined_1 (by rw [q1]; decide) (by rw [q1]; decide) (by rw [q1]; rfl) (by decide) ?_
      refine j_lload_n K 1 d_Rule_joined_172 rfl rfl ?_
      refine j_lload_n K 2 d_Rule_joined_173 rfl rfl ?_
      refine j_lcmp K d_Rule_joined_174 ?_
      refine j_if_lt (tgt := 182) K d_Rule_joined_175 (by decide) (fun q => ?_) (fun q => ?_)
      · have h := if_t h q
        refine j_lconst (v := 0) K d_Rule_joined_182 (by decide) ?_
        exact eret_l K h hr hlk d_Rule_joined_183
      · have h := if_f h q
        refine j_lconst (v := 1) K d_Rule_joined_178 (by decide) ?_
        refine j_goto (tgt := 183) K d_Rule_joined_179 (by decide) ?_
        exact eret_l K h hr hlk d_Rule_joined_183
    have h := if_f h q
    by_cases q : a1 = (-30)
    · have h := if_t h q
      have q1 : a1.toInt = (-30) := by rw [q]; decide
      refine j_tabIn (tgt := 160) K d_Rule_joined_1 (by rw [q1]; decide) (by rw [q1]; decide) (by rw [q1]; rfl) (by decide) ?_
      refine j_lload_n K 1 d_Rule_joined_160 rfl rfl ?_
      refine j_lload_n K 2 d_Rule_joined_161 rfl rfl ?_
      refine j_lcmp K d_Rule_joined_162 ?_
      refine j_if_ne (tgt := 170) K d_Rule_joined_163 (by decide) (fun q => ?_) (fun q => ?_)
      · have h := if_f h q
        refine j_lconst (v := 0) K d_Rule_joined_170 (by decide) ?_
        exact eret_l K h hr hlk d_Rule_joined_171
      · have h := if_t h q
        refine j_lconst (v := 1) K d_Rule_joined_166 (by decide) ?_
        refine j_goto (tgt := 171) K d_Rule_joined_167 (by decide) ?_
        exact eret_l K h hr hlk d_Rule_joined_171
    have h := if_f h q
    by_cases q : a1 = (-29)
    · have h := if_t h q
      have q1 : a1.toInt = (-29) := by rw [q]; decide
      refine j_tabIn (tgt := 148) K d_Rule_joined_1 (by rw [q1]; decide) (by rw [q1]; decide) (by rw [q1]; rfl) (by decide) ?_
      refine j_lload_n K 1 d_Rule_joined_148 rfl rfl ?_
      refine j_lload_n K 2 d_Rule_joined_149 rfl rfl ?_
      refine j_lcmp K d_Rule_joined_150 ?_
      refine j_if_gt (tgt := 158) K d_Rule_joined_151 (by decide) (fun q => ?_) (fun q => ?_)
      · have h := if_t h q
        refine j_lconst (v := 0) K d_Rule_joined_158 (by decide) ?_
        exact eret_l K h hr hlk d_Rule_joined_159
      · have h := if_f h q
        refine j_lconst (v := 1) K d_Rule_joined_154 (by decide) ?_
        refine j_goto (tgt := 159) K d_Rule_joined_155 (by decide) ?_
        exact eret_l K h hr hlk d_Rule_joined_159
    have h := if_f h q
    by_cases q : a1 = (-28)
    · have h := if_t h q
      have q1 : a1.toInt = (-28) := by rw [q]; decide
      refine j_tabIn (tgt := 136) K d_Rule_joined_1 (by rw [q1]; decide) (by rw [q1]; decide) (by rw [q1]; rfl) (by decide) ?_
      refine j_lload_n K 1 d_Rule_joined_136 rfl rfl ?_
      refine j_lload_n K 2 d_Rule_joined_137 rfl rfl ?_
      refine j_lcmp K d_Rule_joined_138 ?_
      refine j_if_ge (tgt := 146) K d_Rule_joined_139 (by decide) (fun q => ?_) (fun q => ?_)
      · have h := if_t h q
        refine j_lconst (v := 0) K d_Rule_joined_146 (by decide) ?_
        exact eret_l K h hr hlk d_Rule_joined_147
      · have h := if_f h q
        refine j_lconst (v := 1) K d_Rule_joined_142 (by decide) ?_
        refine j_goto (tgt := 147) K d_Rule_joined_143 (by decide) ?_
        exact eret_l K h hr hlk d_Rule_joined_147
    have h := if_f h q
    by_cases q : a1 = (-27)
    · have h := if_t h q
      have q1 : a1.toInt = (-27) := by rw [q]; decide
      refine j_tabIn (tgt := 86) K d_Rule_joined_1 (by rw [q1]; decide) (by rw [q1]; decide) (by rw [q1]; rfl) (by decide) ?_
      refine j_lload_n K 2 d_Rule_joined_86 rfl rfl ?_
      refine j_lconst (v := 0) K d_Rule_joined_87 (by decide) ?_
      refine j_lcmp K d_Rule_joined_88 ?_
      refine j_if_ne (tgt := 96) K d_Rule_joined_89 (by decide) (fun q => ?_) (fun q => ?_)
      · have h := if_f h q
        refine j_lload_n K 1 d_Rule_joined_96 rfl rfl ?_
        refine j_lload_n K 2 d_Rule_joined_97 rfl rfl ?_
        obtain ⟨q1, h⟩ := ck_e h
        refine j_lrem K d_Rule_joined_98 (nzL_e q1) ?_
        exact eret_l K h hr hlk d_Rule_joined_99
      · have h := if_t h q
        refine j_lconst (v := 0) K d_Rule_joined_92 (by decide) ?_
        refine j_goto (tgt := 99) K d_Rule_joined_93 (by decide) ?_
        exact eret_l K h hr hlk d_Rule_joined_99
    have h := if_f h q
    by_cases q : a1 = (-26)
    · have h := if_t h q
      have q1 : a1.toInt = (-26) := by rw [q]; decide
      refine j_tabIn (tgt := 72) K d_Rule_joined_1 (by rw [q1]; decide) (by rw [q1]; decide) (by rw [q1]; rfl) (by decide) ?_
      refine j_lload_n K 2 d_Rule_joined_72 rfl rfl ?_
      refine j_lconst (v := 0) K d_Rule_joined_73 (by decide) ?_
      refine j_lcmp K d_Rule_joined_74 ?_
      refine j_if_ne (tgt := 82) K d_Rule_joined_75 (by decide) (fun q => ?_) (fun q => ?_)
      · have h := if_f h q
        refine j_lload_n K 1 d_Rule_joined_82 rfl rfl ?_
        refine j_lload_n K 2 d_Rule_joined_83 rfl rfl ?_
        obtain ⟨q2, h⟩ := ck_e h
        refine j_ldiv K d_Rule_joined_84 (nzL_e q2) ?_
        exact eret_l K h hr hlk d_Rule_joined_85
      · have h := if_t h q
        refine j_lconst (v := 0) K d_Rule_joined_78 (by decide) ?_
        refine j_goto (tgt := 85) K d_Rule_joined_79 (by decide) ?_
        exact eret_l K h hr hlk d_Rule_joined_85
    have h := if_f h q
    by_cases q : a1 = (-25)
    · have h := if_t h q
      have q1 : a1.toInt = (-25) := by rw [q]; decide
      refine j_tabIn (tgt := 68) K d_Rule_joined_1 (by rw [q1]; decide) (by rw [q1]; decide) (by rw [q1]; rfl) (by decide) ?_
      refine j_lload_n K 1 d_Rule_joined_68 rfl rfl ?_
      refine j_lload_n K 2 d_Rule_joined_69 rfl rfl ?_
      refine j_lmul K d_Rule_joined_70 ?_
      exact eret_l K h hr hlk d_Rule_joined_71
    have h := if_f h q
    by_cases q : a1 = (-24)
    · have h := if_t h q
      have q1 : a1.toInt = (-24) := by rw [q]; decide
      refine j_tabIn (tgt := 64) K d_Rule_joined_1 (by rw [q1]; decide) (by rw [q1]; decide) (by rw [q1]; rfl) (by decide) ?_
      refine j_lload_n K 1 d_Rule_joined_64 rfl rfl ?_
      refine j_lload_n K 2 d_Rule_joined_65 rfl rfl ?_
      refine j_lsub K d_Rule_joined_66 ?_
      exact eret_l K h hr hlk d_Rule_joined_67
    have h := if_f h q
    by_cases q : a1 = (-23)
    · have h := if_t h q
      have q1 : a1.toInt = (-23) := by rw [q]; decide
      refine j_tabIn (tgt := 60) K d_Rule_joined_1 (by rw [q1]; decide) (by rw [q1]; decide) (by rw [q1]; rfl) (by decide) ?_
      refine j_lload_n K 1 d_Rule_joined_60 rfl rfl ?_
      refine j_lload_n K 2 d_Rule_joined_61 rfl rfl ?_
      refine j_ladd K d_Rule_joined_62 ?_
      exact eret_l K h hr hlk d_Rule_joined_63
    have h := if_f h q
    by_cases q : a1 = (-22)
    · have h := if_t h q
      have q1 : a1.toInt = (-22) := by rw [q]; decide
      refine j_tabIn (tgt := 118) K d_Rule_joined_1 (by rw [q1]; decide) (by rw [q1]; decide) (by rw [q1]; rfl) (by decide) ?_
      refine j_lload_n K 1 d_Rule_joined_118 rfl rfl ?_
      refine j_lconst (v := 0) K d_Rule_joined_119 (by decide) ?_
      refine j_lcmp K d_Rule_joined_120 ?_
      refine j_if_ne (tgt := 130) K d_Rule_joined_121 (by decide) (fun q => ?_) (fun q => ?_)
      · have h := if_f h q
        refine j_lconst (v := 1) K d_Rule_joined_130 (by decide) ?_
        refine j_goto (tgt := 135) K d_Rule_joined_131 (by decide) ?_
        exact eret_l K h hr hlk d_Rule_joined_135
      · have h := if_t h q
        refine j_lload_n K 2 d_Rule_joined_124 rfl rfl ?_
        refine j_lconst (v := 0) K d_Rule_joined_125 (by decide) ?_
        refine j_lcmp K d_Rule_joined_126 ?_
        refine j_if_eq (tgt := 134) K d_Rule_joined_127 (by decide) (fun q => ?_) (fun q => ?_)
        · have h := if_t h q
          refine j_lconst (v := 0) K d_Rule_joined_134 (by decide) ?_
          exact eret_l K h hr hlk d_Rule_joined_135
        · have h := if_f h q
          refine j_lconst (v := 1) K d_Rule_joined_130 (by decide) ?_
          refine j_goto (tgt := 135) K d_Rule_joined_131 (by decide) ?_
          exact eret_l K h hr hlk d_Rule_joined_135
    have h := if_f h q
    by_cases q : a1 = (-21)
    · have h := if_t h q
      have q1 : a1.toInt = (-21) := by rw [q]; decide
      refine j_tabIn (tgt := 100) K d_Rule_joined_1 (by rw [q1]; decide) (by rw [q1]; decide) (by rw [q1]; rfl) (by decide) ?_
      refine j_lload_n K 1 d_Rule_joined_100 rfl rfl ?_
      refine j_lconst (v := 0) K d_Rule_joined_101 (by decide) ?_
      refine j_lcmp K d_Rule_joined_102 ?_
      refine j_if_eq (tgt := 116) K d_Rule_joined_103 (by decide) (fun q => ?_) (fun q => ?_)
      · have h := if_t h q
        refine j_lconst (v := 0) K d_Rule_joined_116 (by decide) ?_
        exact eret_l K h hr hlk d_Rule_joined_117
      · have h := if_f h q
        refine j_lload_n K 2 d_Rule_joined_106 rfl rfl ?_
        refine j_lconst (v := 0) K d_Rule_joined_107 (by decide) ?_
        refine j_lcmp K d_Rule_joined_108 ?_
        refine j_if_eq (tgt := 116) K d_Rule_joined_109 (by decide) (fun q => ?_) (fun q => ?_)
        · have h := if_t h q
          refine j_lconst (v := 0) K d_Rule_joined_116 (by decide) ?_
          exact eret_l K h hr hlk d_Rule_joined_117
        · have h := if_f h q
          refine j_lconst (v := 1) K d_Rule_joined_112 (by decide) ?_
          refine j_goto (tgt := 117) K d_Rule_joined_113 (by decide) ?_
          exact eret_l K h hr hlk d_Rule_joined_117
    have h := if_f h q
    exact absurd h (by simp)
def p_Rule_codeOf (N : Nat) (a1 : Int32) (κ : Cz) : Option (Int32 × Cz) := some ((-1) - a1, κ)
set_option maxHeartbeats 4000000 in
set_option maxRecDepth 100000 in
theorem c_Rule_codeOf_ok (l : Launch) (D : va_G) (θ : Tc) (N : Nat) (a1 : Int32) (κ : Cz) (ρ : Int32 × Cz) (h : p_Rule_codeOf N a1 κ = some ρ) : CEi l D θ y_Rule_codeOf c_Rule_codeOf 1 (some .int) 1 0 0 [.int a1] κ ρ := by
  intro sz
  refine e_met l [.int a1] (by decide +kernel) (Nat.le_of_ble_eq_true rfl) ?_
  intro p e s m args below meth c K hN hr hlk hnm hs
  generalize va_A (wE θ κ) sz = A at K ⊢
  have K : KE p s m args c c_Rule_codeOf 1 "ErrataRow$Rule" y_Rule_codeOf (some .int) D θ A := K
  show JE p l e (rmA 1 0 0) s m args below meth c D θ A 1 0 0 (QEi below args s D θ A 0 0 ρ) κ [(0, .int a1)] [] 0
  unfold p_Rule_codeOf at h
  refine j_iconst (v := (-1)) K d_Rule_codeOf_0 (by decide) ?_
  refine j_iload_n K 0 d_Rule_codeOf_1 rfl rfl ?_
  refine j_isub K d_Rule_codeOf_2 ?_
  exact eret_i K h hr hlk d_Rule_codeOf_3
def p_RuleReader_add (N : Nat) (this : Nat) (a1 : Int32) (κ : Cz) : Option (Cz) := ck (isK κ this 7) (bo (fr κ this 1) (fun o2 => ck (isK κ o2 20) (if (nI (ln κ o2)) ≤ (fi κ this 4) then some κ else bo (fr κ this 1) (fun o4 => ck (isK κ o4 20) (ck (inb (fi κ this 4) (ln κ o4)) (lt (sai o4 (upd (ai κ o4) (fi κ this 4).toNatClampNeg a1) κ) (fun κ7 => lt ((fi κ7 this 4) + 1) (fun v8 => lt (sfi this 4 v8 κ7) (fun κ9 => some κ9)))))))))
set_option maxHeartbeats 4000000 in
set_option maxRecDepth 100000 in
theorem c_RuleReader_add_ok (l : Launch) (D : va_G) (θ : Tc) (N : Nat) (this : Nat) (a1 : Int32) (κ : Cz) (ρ : Cz) (h : p_RuleReader_add N this a1 κ = some ρ) : CEv l D θ y_RuleReader_add c_RuleReader_add 2 none 1 0 0 [.ref this, .int a1] κ ρ := by
  intro sz
  refine e_met l [.ref this, .int a1] (by decide +kernel) (Nat.le_of_ble_eq_true rfl) ?_
  intro p e s m args below meth c K hN hr hlk hnm hs
  generalize va_A (wE θ κ) sz = A at K ⊢
  have K : KE p s m args c c_RuleReader_add 2 "ErrataRow$RuleReader" y_RuleReader_add none D θ A := K
  show JE p l e (rmA 1 0 0) s m args below meth c D θ A 2 0 0 (QEv below args s D θ A 0 0 ρ) κ [(0, .ref this), (1, .int a1)] [] 0
  unfold p_RuleReader_add at h
  refine j_aload_n K 0 d_RuleReader_add_0 rfl rfl ?_
  obtain ⟨q1, h⟩ := ck_e h
  refine eg_RuleReader_size K ef_RuleReader_27 q1 d_RuleReader_add_1 ?_
  refine j_aload_n K 0 d_RuleReader_add_4 rfl rfl ?_
  refine eg_RuleReader_codes K ef_RuleReader_9 q1 d_RuleReader_add_5 ?_
  obtain ⟨o2, e2, h⟩ := bo_e h
  refine j_eqq e2 ?_
  obtain ⟨q3, h⟩ := ck_e h
  refine e_alen K q3 d_RuleReader_add_8 ?_
  refine j_icmp_ge (tgt := 32) K d_RuleReader_add_9 (by decide) (fun q => ?_) (fun q => ?_)
  · have h := if_t h q
    exact eret_v K h hr hlk d_RuleReader_add_32
  · have h := if_f h q
    refine j_aload_n K 0 d_RuleReader_add_12 rfl rfl ?_
    refine eg_RuleReader_codes K ef_RuleReader_9 q1 d_RuleReader_add_13 ?_
    obtain ⟨o4, e4, h⟩ := bo_e h
    refine j_eqq e4 ?_
    refine j_aload_n K 0 d_RuleReader_add_16 rfl rfl ?_
    refine eg_RuleReader_size K ef_RuleReader_27 q1 d_RuleReader_add_17 ?_
    refine j_iload_n K 1 d_RuleReader_add_20 rfl rfl ?_
    obtain ⟨q5, h⟩ := ck_e h
    obtain ⟨q6, h⟩ := ck_e h
    obtain ⟨κ7, e7, h⟩ := lt_e h
    refine e_iast K q5 (inb_e q6) d_RuleReader_add_21 e7 ?_
    refine j_aload_n K 0 d_RuleReader_add_22 rfl rfl ?_
    refine j_dup K d_RuleReader_add_23 rfl ?_
    refine eg_RuleReader_size K ef_RuleReader_27 (isK_sai e7 q1) d_RuleReader_add_24 ?_
    refine j_iconst (v := 1) K d_RuleReader_add_27 (by decide) ?_
    refine j_iadd K d_RuleReader_add_28 ?_
    obtain ⟨v8, e8, h⟩ := lt_e h
    refine j_eqi e8 ?_
    obtain ⟨κ9, e9, h⟩ := lt_e h
    refine ep_RuleReader_size K ef_RuleReader_27 (isK_sai e7 q1) d_RuleReader_add_29 e9 ?_
    exact eret_v K h hr hlk d_RuleReader_add_32
def p_RuleReader_codeOfComparison (N : Nat) (this : Nat) (κ : Cz) : Option (Int32 × Cz) := ck (isK κ this 7) (bo (fr κ this 0) (fun o2 => ck (isK κ o2 9) (if (fi κ o2 5) = 4 then bo (fr κ this 0) (fun o4 => ck (isK κ o4 9) (lt (fi κ o4 6) (fun v6 => if v6 = 60 then some ((-28), κ) else if v6 = 61 then some ((-30), κ) else if v6 = 62 then some ((-32), κ) else if v6 = 316 then some ((-29), κ) else if v6 = 318 then some ((-31), κ) else some (0, κ)))) else some (0, κ))))
set_option maxHeartbeats 4000000 in
set_option maxRecDepth 100000 in
theorem c_RuleReader_codeOfComparison_ok (l : Launch) (D : va_G) (θ : Tc) (N : Nat) (this : Nat) (κ : Cz) (ρ : Int32 × Cz) (h : p_RuleReader_codeOfComparison N this κ = some ρ) : CEi l D θ y_RuleReader_codeOfComparison c_RuleReader_codeOfComparison 1 (some .int) 1 0 0 [.ref this] κ ρ := by
  intro sz
  refine e_met l [.ref this] (by decide +kernel) (Nat.le_of_ble_eq_true rfl) ?_
  intro p e s m args below meth c K hN hr hlk hnm hs
  generalize va_A (wE θ κ) sz = A at K ⊢
  have K : KE p s m args c c_RuleReader_codeOfComparison 1 "ErrataRow$RuleReader" y_RuleReader_codeOfComparison (some .int) D θ A := K
  show JE p l e (rmA 1 0 0) s m args below meth c D θ A 1 0 0 (QEi below args s D θ A 0 0 ρ) κ [(0, .ref this)] [] 0
  unfold p_RuleReader_codeOfComparison at h
  refine j_aload_n K 0 d_RuleReader_codeOfComparison_0 rfl rfl ?_
  obtain ⟨q1, h⟩ := ck_e h
  refine eg_RuleReader_tokens K ef_RuleReader_21 q1 d_RuleReader_codeOfComparison_1 ?_
  obtain ⟨o2, e2, h⟩ := bo_e h
  refine j_eqq e2 ?_
  obtain ⟨q3, h⟩ := ck_e h
  refine eg_Tokens_kind K ef_RuleReader_68 q3 d_RuleReader_codeOfComparison_4 ?_
  refine j_iconst (v := 4) K d_RuleReader_codeOfComparison_7 (by decide) ?_
  refine j_icmp_eq (tgt := 13) K d_RuleReader_codeOfComparison_8 (by decide) (fun q => ?_) (fun q => ?_)
  · have h := if_t h q
    refine j_aload_n K 0 d_RuleReader_codeOfComparison_13 rfl rfl ?_
    refine eg_RuleReader_tokens K ef_RuleReader_21 q1 d_RuleReader_codeOfComparison_14 ?_
    obtain ⟨o4, e4, h⟩ := bo_e h
    refine j_eqq e4 ?_
    obtain ⟨q5, h⟩ := ck_e h
    refine eg_Tokens_value K ef_RuleReader_99 q5 d_RuleReader_codeOfComparison_17 ?_
    obtain ⟨v6, e6, h⟩ := lt_e h
    refine j_eqi e6 ?_
    by_cases q20_0 : v6 = 60
    · have h := if_t h q20_0
      have q1 : v6.toInt = 60 := by rw [q20_0]; decide
      refine j_lookup (tgt := 72) (off := 52) K d_RuleReader_codeOfComparison_20 (by decide) (by rw [q1]; decide) (by decide) ?_
      refine j_bipush (v := (-28)) K d_RuleReader_codeOfComparison_72 (by decide) ?_
      exact eret_i K h hr hlk d_RuleReader_codeOfComparison_74
    have h := if_f h q20_0
    by_cases q20_1 : v6 = 61
    · have h := if_t h q20_1
      have q1 : v6.toInt = 61 := by rw [q20_1]; decide
      refine j_lookup (tgt := 78) (off := 58) K d_RuleReader_codeOfComparison_20 (by decide) (by rw [q1]; decide) (by decide) ?_
      refine j_bipush (v := (-30)) K d_RuleReader_codeOfComparison_78 (by decide) ?_
      exact eret_i K h hr hlk d_RuleReader_codeOfComparison_80
    have h := if_f h q20_1
    by_cases q20_2 : v6 = 62
    · have h := if_t h q20_2
      have q1 : v6.toInt = 62 := by rw [q20_2]; decide
      refine j_lookup (tgt := 84) (off := 64) K d_RuleReader_codeOfComparison_20 (by decide) (by rw [q1]; decide) (by decide) ?_
      refine j_bipush (v := (-32)) K d_RuleReader_codeOfComparison_84 (by decide) ?_
      exact eret_i K h hr hlk d_RuleReader_codeOfComparison_86
    have h := if_f h q20_2
    by_cases q20_3 : v6 = 316
    · have h := if_t h q20_3
      have q1 : v6.toInt = 316 := by rw [q20_3]; decide
      refine j_lookup (tgt := 75) (off := 55) K d_RuleReader_codeOfComparison_20 (by decide) (by rw [q1]; decide) (by decide) ?_
      refine j_bipush (v := (-29)) K d_RuleReader_codeOfComparison_75 (by decide) ?_
      exact eret_i K h hr hlk d_RuleReader_codeOfComparison_77
    have h := if_f h q20_3
    by_cases q20_4 : v6 = 318
    · have h := if_t h q20_4
      have q1 : v6.toInt = 318 := by rw [q20_4]; decide
      refine j_lookup (tgt := 81) (off := 61) K d_RuleReader_codeOfComparison_20 (by decide) (by rw [q1]; decide) (by decide) ?_
      refine j_bipush (v := (-31)) K d_RuleReader_codeOfComparison_81 (by decide) ?_
      exact eret_i K h hr hlk d_RuleReader_codeOfComparison_83
    have h := if_f h q20_4
    have z0 : ¬ v6.toInt = 60 := fun z => q20_0 (Int32.toInt_inj.mp (z.trans (by decide)))
    have z1 : ¬ v6.toInt = 61 := fun z => q20_1 (Int32.toInt_inj.mp (z.trans (by decide)))
    have z2 : ¬ v6.toInt = 62 := fun z => q20_2 (Int32.toInt_inj.mp (z.trans (by decide)))
    have z3 : ¬ v6.toInt = 316 := fun z => q20_3 (Int32.toInt_inj.mp (z.trans (by decide)))
    have z4 : ¬ v6.toInt = 318 := fun z => q20_4 (Int32.toInt_inj.mp (z.trans (by decide)))
    refine j_lookup (tgt := 87) (off := 67) K d_RuleReader_codeOfComparison_20 (by decide) (by simp [Op.lookupswitch.offset, List.find?, Ne.symm (z0), z0, Ne.symm (z1), z1, Ne.symm (z2), z2, Ne.symm (z3), z3, Ne.symm (z4), z4]) (by decide) ?_
    refine j_iconst (v := 0) K d_RuleReader_codeOfComparison_87 (by decide) ?_
    exact eret_i K h hr hlk d_RuleReader_codeOfComparison_88
  · have h := if_f h q
    refine j_iconst (v := 0) K d_RuleReader_codeOfComparison_11 (by decide) ?_
    exact eret_i K h hr hlk d_RuleReader_codeOfComparison_12
def p_RuleReader_codeOfTerm (N : Nat) (this : Nat) (κ : Cz) : Option (Int32 × Cz) := ck (isK κ this 7) (bo (fr κ this 0) (fun o2 => ck (isK κ o2 9) (if (fi κ o2 5) = 4 then bo (fr κ this 0) (fun o4 => ck (isK κ o4 9) (lt (fi κ o4 6) (fun v6 => if v6 = 37 then some ((-27), κ) else if v6 = 42 then some ((-25), κ) else if v6 = 47 then some ((-26), κ) else some (0, κ)))) else some (0, κ))))
set_option maxHeartbeats 4000000 in
set_option maxRecDepth 100000 in
theorem c_RuleReader_codeOfTerm_ok (l : Launch) (D : va_G) (θ : Tc) (N : Nat) (this : Nat) (κ : Cz) (ρ : Int32 × Cz) (h : p_RuleReader_codeOfTerm N this κ = some ρ) : CEi l D θ y_RuleReader_codeOfTerm c_RuleReader_codeOfTerm 1 (some .int) 1 0 0 [.ref this] κ ρ := by
  intro sz
  refine e_met l [.ref this] (by decide +kernel) (Nat.le_of_ble_eq_true rfl) ?_
  intro p e s m args below meth c K hN hr hlk hnm hs
  generalize va_A (wE θ κ) sz = A at K ⊢
  have K : KE p s m args c c_RuleReader_codeOfTerm 1 "ErrataRow$RuleReader" y_RuleReader_codeOfTerm (some .int) D θ A := K
  show JE p l e (rmA 1 0 0) s m args below meth c D θ A 1 0 0 (QEi below args s D θ A 0 0 ρ) κ [(0, .ref this)] [] 0
  unfold p_RuleReader_codeOfTerm at h
  refine j_aload_n K 0 d_RuleReader_codeOfTerm_0 rfl rfl ?_
  obtain ⟨q1, h⟩ := ck_e h
  refine eg_RuleReader_tokens K ef_RuleReader_21 q1 d_RuleReader_codeOfTerm_1 ?_
  obtain ⟨o2, e2, h⟩ := bo_e h
  refine j_eqq e2 ?_
  obtain ⟨q3, h⟩ := ck_e h
  refine eg_Tokens_kind K ef_RuleReader_68 q3 d_RuleReader_codeOfTerm_4 ?_
  refine j_iconst (v := 4) K d_RuleReader_codeOfTerm_7 (by decide) ?_
  refine j_icmp_eq (tgt := 13) K d_RuleReader_codeOfTerm_8 (by decide) (fun q => ?_) (fun q => ?_)
  · have h := if_t h q
    refine j_aload_n K 0 d_RuleReader_codeOfTerm_13 rfl rfl ?_
    refine eg_RuleReader_tokens K ef_RuleReader_21 q1 d_RuleReader_codeOfTerm_14 ?_
    obtain ⟨o4, e4, h⟩ := bo_e h
    refine j_eqq e4 ?_
    obtain ⟨q5, h⟩ := ck_e h
    refine eg_Tokens_value K ef_RuleReader_99 q5 d_RuleReader_codeOfTerm_17 ?_
    obtain ⟨v6, e6, h⟩ := lt_e h
    refine j_eqi e6 ?_
    by_cases q20_0 : v6 = 37
    · have h := if_t h q20_0
      have q1 : v6.toInt = 37 := by rw [q20_0]; decide
      refine j_lookup (tgt := 62) (off := 42) K d_RuleReader_codeOfTerm_20 (by decide) (by rw [q1]; decide) (by decide) ?_
      refine j_bipush (v := (-27)) K d_RuleReader_codeOfTerm_62 (by decide) ?_
      exact eret_i K h hr hlk d_RuleReader_codeOfTerm_64
    have h := if_f h q20_0
    by_cases q20_1 : v6 = 42
    · have h := if_t h q20_1
      have q1 : v6.toInt = 42 := by rw [q20_1]; decide
      refine j_lookup (tgt := 56) (off := 36) K d_RuleReader_codeOfTerm_20 (by decide) (by rw [q1]; decide) (by decide) ?_
      refine j_bipush (v := (-25)) K d_RuleReader_codeOfTerm_56 (by decide) ?_
      exact eret_i K h hr hlk d_RuleReader_codeOfTerm_58
    have h := if_f h q20_1
    by_cases q20_2 : v6 = 47
    · have h := if_t h q20_2
      have q1 : v6.toInt = 47 := by rw [q20_2]; decide
      refine j_lookup (tgt := 59) (off := 39) K d_RuleReader_codeOfTerm_20 (by decide) (by rw [q1]; decide) (by decide) ?_
      refine j_bipush (v := (-26)) K d_RuleReader_codeOfTerm_59 (by decide) ?_
      exact eret_i K h hr hlk d_RuleReader_codeOfTerm_61
    have h := if_f h q20_2
    have z0 : ¬ v6.toInt = 37 := fun z => q20_0 (Int32.toInt_inj.mp (z.trans (by decide)))
    have z1 : ¬ v6.toInt = 42 := fun z => q20_1 (Int32.toInt_inj.mp (z.trans (by decide)))
    have z2 : ¬ v6.toInt = 47 := fun z => q20_2 (Int32.toInt_inj.mp (z.trans (by decide)))
    refine j_lookup (tgt := 65) (off := 45) K d_RuleReader_codeOfTerm_20 (by decide) (by simp [Op.lookupswitch.offset, List.find?, Ne.symm (z0), z0, Ne.symm (z1), z1, Ne.symm (z2), z2]) (by decide) ?_
    refine j_iconst (v := 0) K d_RuleReader_codeOfTerm_65 (by decide) ?_
    exact eret_i K h hr hlk d_RuleReader_codeOfTerm_66
  · have h := if_f h q
    refine j_iconst (v := 0) K d_RuleReader_codeOfTerm_11 (by decide) ?_
    exact eret_i K h hr hlk d_RuleReader_codeOfTerm_12
