def b_Press_putByHabit_18 (N : Nat) : Nat → Nat → Nat → Int32 → Int32 → Int32 → Cz → Option (Cz)
  | 0, _, _, _, _, _, _ => none
  | n + 1, x0, x1, x2, x3, x4, κ => ck (isK κ x0 4) (bo (fr κ x0 0) (fun o5 => ck (isK κ o5 0) (if (fi κ o5 2) ≤ x4 then some κ else if x4 = x2 then lt (x4 + 1) (fun v7 => b_Press_putByHabit_18 N n x0 x1 x2 x3 v7 κ) else ck (isK κ x1 8) (bo (fr κ x1 0) (fun o9 => ck (isK κ o9 20) (ck (inb x4 (ln κ o9)) (bo (fr κ x0 0) (fun o12 => ck (isK κ o12 0) (bo (fr κ o12 5) (fun o14 => ck (isK κ o14 20) (ck (inb x3 (ln κ o14)) (if (ai κ o9 x4.toNatClampNeg) = (ai κ o14 x3.toNatClampNeg) then bo (fr κ x1 0) (fun o18 => bo (fr κ x0 0) (fun o19 => ck (isK κ o19 0) (bo (fr κ o19 6) (fun o21 => ck (isK κ o21 20) (ck (inb x3 (ln κ o21)) (lt (ai κ o21 x3.toNatClampNeg) (fun v24 => ck (isK κ o18 20) (ck (inb x4 (ln κ o18)) (lt (sai o18 (upd (ai κ o18) x4.toNatClampNeg v24) κ) (fun κ27 => some κ27)))))))))) else lt (x4 + 1) (fun v17 => b_Press_putByHabit_18 N n x0 x1 x2 x3 v17 κ)))))))))))))
set_option maxHeartbeats 4000000 in
set_option maxRecDepth 100000 in
theorem t_Press_putByHabit_18 {p : Program} {l : Launch} {e : Env} {s : State} {m : MethodId} {args : Array Value} {below : List Frame} {meth : Method} {c : Code} {D : va_G} {θ : Tc} {A : Nat → Prop} (K : KE p s m args c c_Press_putByHabit 5 "ErrataRow$Press" y_Press_putByHabit none D θ A) (hN : NX s) (hr : meth.sig.returnType = none) (hlk : meth.locks = false) (N : Nat) (ρ : Cz) : ∀ (n : Nat) (x0 : Nat) (x1 : Nat) (x2 : Int32) (x3 : Int32) (x4 : Int32) (κ : Cz), b_Press_putByHabit_18 N n x0 x1 x2 x3 x4 κ = some ρ → JE p l e (rmA 2 0 0) s m args below meth c D θ A 5 0 0 (QEv below args s D θ A 0 0 ρ) κ [(0, .ref x0), (1, .ref x1), (2, .int x2), (3, .int x3), (4, .int x4)] [] 18 := by
  intro n
  induction n with
  | zero =>
    intro x0 x1 x2 x3 x4 κ h
    exact absurd h (by simp [b_Press_putByHabit_18])
  | succ n ih =>
    intro x0 x1 x2 x3 x4 κ h
    rw [b_Press_putByHabit_18] at h
    refine j_iload K 4 d_Press_putByHabit_18 rfl ?_
    refine j_aload_n K 0 d_Press_putByHabit_20 rfl rfl ?_
    obtain ⟨q4, h⟩ := ck_e h
    refine eg_Press_book K ef_Press_21 q4 d_Press_putByHabit_21 ?_
    obtain ⟨o5, e5, h⟩ := bo_e h
    refine j_eqq e5 ?_
    obtain ⟨q6, h⟩ := ck_e h
    refine eg_Book_letters K ef_Press_25 q6 d_Press_putByHabit_24 ?_
    refine j_icmp_ge (tgt := 78) K d_Press_putByHabit_27 (by decide) (fun q => ?_) (fun q => ?_)
    · have h := if_t h q
      exact eret_v K h hr hlk d_Press_putByHabit_78
    · have h := if_f h q
      refine j_iload K 4 d_Press_putByHabit_30 rfl ?_
      refine j_iload_n K 2 d_Press_putByHabit_32 rfl rfl ?_
      refine j_icmp_eq (tgt := 72) K d_Press_putByHabit_33 (by decide) (fun q => ?_) (fun q => ?_)
      · have h := if_t h q
        obtain ⟨v7, e7, h⟩ := lt_e h
        refine j_iinc (k := 4) (v := v7) (lv' := [(4, .int v7), (0, .ref x0), (1, .ref x1), (2, .int x2), (3, .int x3)]) K d_Press_putByHabit_72 rfl (by rw [e7]; rfl) (by decide) rfl ?_
        refine j_goto (tgt := 18) K d_Press_putByHabit_75 (by decide) ?_
        refine j_sub [1, 2, 3, 4, 0] rfl ?_
        exact ih x0 x1 x2 x3 v7 κ h
      · have h := if_f h q
        refine j_aload_n K 1 d_Press_putByHabit_36 rfl rfl ?_
        obtain ⟨q8, h⟩ := ck_e h
        refine eg_State_put K ef_Press_30 q8 d_Press_putByHabit_37 ?_
        obtain ⟨o9, e9, h⟩ := bo_e h
        refine j_eqq e9 ?_
        refine j_iload K 4 d_Press_putByHabit_40 rfl ?_
        obtain ⟨q10, h⟩ := ck_e h
        obtain ⟨q11, h⟩ := ck_e h
        refine e_iald K q10 (inb_e q11) d_Press_putByHabit_42 ?_
        refine j_aload_n K 0 d_Press_putByHabit_43 rfl rfl ?_
        refine eg_Press_book K ef_Press_21 q4 d_Press_putByHabit_44 ?_
        obtain ⟨o12, e12, h⟩ := bo_e h
        refine j_eqq e12 ?_
        obtain ⟨q13, h⟩ := ck_e h
        refine eg_Book_from K ef_Press_109 q13 d_Press_putByHabit_47 ?_
        obtain ⟨o14, e14, h⟩ := bo_e h
        refine j_eqq e14 ?_
        refine j_iload_n K 3 d_Press_putByHabit_50 rfl rfl ?_
        obtain ⟨q15, h⟩ := ck_e h
        obtain ⟨q16, h⟩ := ck_e h
        refine e_iald K q15 (inb_e q16) d_Press_putByHabit_51 ?_
        refine j_icmp_ne (tgt := 72) K d_Press_putByHabit_52 (by decide) (fun q => ?_) (fun q => ?_)
        · have h := if_f h q
          obtain ⟨v17, e17, h⟩ := lt_e h
          refine j_iinc (k := 4) (v := v17) (lv' := [(4, .int v17), (0, .ref x0), (1, .ref x1), (2, .int x2), (3, .int x3)]) K d_Press_putByHabit_72 rfl (by rw [e17]; rfl) (by decide) rfl ?_
          refine j_goto (tgt := 18) K d_Press_putByHabit_75 (by decide) ?_
          refine j_sub [1, 2, 3, 4, 0] rfl ?_
          exact ih x0 x1 x2 x3 v17 κ h
        · have h := if_t h q
          refine j_aload_n K 1 d_Press_putByHabit_55 rfl rfl ?_
          refine eg_State_put K ef_Press_30 q8 d_Press_putByHabit_56 ?_
          obtain ⟨o18, e18, h⟩ := bo_e h
          refine j_eqq e18 ?_
          refine j_iload K 4 d_Press_putByHabit_59 rfl ?_
          refine j_aload_n K 0 d_Press_putByHabit_61 rfl rfl ?_
          refine eg_Press_book K ef_Press_21 q4 d_Press_putByHabit_62 ?_
          obtain ⟨o19, e19, h⟩ := bo_e h
          refine j_eqq e19 ?_
          obtain ⟨q20, h⟩ := ck_e h
          refine eg_Book_to K ef_Press_112 q20 d_Press_putByHabit_65 ?_
          obtain ⟨o21, e21, h⟩ := bo_e h
          refine j_eqq e21 ?_
          refine j_iload_n K 3 d_Press_putByHabit_68 rfl rfl ?_
          obtain ⟨q22, h⟩ := ck_e h
          obtain ⟨q23, h⟩ := ck_e h
          refine e_iald K q22 (inb_e q23) d_Press_putByHabit_69 ?_
          obtain ⟨v24, e24, h⟩ := lt_e h
          refine j_eqi e24 ?_
          obtain ⟨q25, h⟩ := ck_e h
          obtain ⟨q26, h⟩ := ck_e h
          obtain ⟨κ27, e27, h⟩ := lt_e h
          refine e_iast K q25 (inb_e q26) d_Press_putByHabit_70 e27 ?_
          exact eret_v K h hr hlk d_Press_putByHabit_71
def p_Press_putByHabit (N : Nat) (this : Nat) (a1 : Nat) (a2 : Int32) (κ : Cz) : Option (Cz) := ck (isK κ this 4) (bd (p_Press_habitOf N this a1 κ) (fun r1 κ1 => ck (isK κ1 this 4) (if r1 = (fi κ1 this 3) then some κ1 else b_Press_putByHabit_18 N N this a1 a2 r1 0 κ1)))
set_option maxHeartbeats 4000000 in
set_option maxRecDepth 100000 in
theorem c_Press_putByHabit_ok (l : Launch) (D : va_G) (θ : Tc) (N : Nat) (this : Nat) (a1 : Nat) (a2 : Int32) (κ : Cz) (ρ : Cz) (h : p_Press_putByHabit N this a1 a2 κ = some ρ) : CEv l D θ y_Press_putByHabit c_Press_putByHabit 5 none 2 0 0 [.ref this, .ref a1, .int a2] κ ρ := by
  intro sz
  refine e_met l [.ref this, .ref a1, .int a2] (by decide +kernel) (Nat.le_of_ble_eq_true rfl) ?_
  intro p e s m args below meth c K hN hr hlk hnm hs
  generalize va_A (wE θ κ) sz = A at K ⊢
  have K : KE p s m args c c_Press_putByHabit 5 "ErrataRow$Press" y_Press_putByHabit none D θ A := K
  show JE p l e (rmA 2 0 0) s m args below meth c D θ A 5 0 0 (QEv below args s D θ A 0 0 ρ) κ [(0, .ref this), (1, .ref a1), (2, .int a2)] [] 0
  unfold p_Press_putByHabit at h
  refine j_aload_n K 0 d_Press_putByHabit_0 rfl rfl ?_
  refine j_aload_n K 1 d_Press_putByHabit_1 rfl rfl ?_
  obtain ⟨q2, h⟩ := ck_e h
  obtain ⟨r1, κ1, e1, h⟩ := bd_e h
  refine ecallV_i K hN (c_Press_habitOf_ok l D θ N this a1 κ _ e1) eG_Press_100 eh_Press_habitOf (by decide) (rmA_ok (by decide) (by decide)) rfl q2 (by decide) rfl (st := []) (Nat.le_of_ble_eq_true rfl) rfl d_Press_putByHabit_2 ⟨Nat.le_of_ble_eq_true rfl, Nat.le_of_ble_eq_true rfl⟩ ?_
  refine j_istore_n (lv' := [(3, .int r1), (0, .ref this), (1, .ref a1), (2, .int a2)]) K d_Press_putByHabit_5 rfl (by decide) rfl ?_
  refine j_iload_n K 0 d_Press_putByHabit_6 rfl rfl ?_
  refine j_aload_n K 1 d_Press_putByHabit_7 rfl rfl ?_
  obtain ⟨q3, h⟩ := ck_e h
  refine eg_Press_leftOff K ef_Press_17 q3 d_Press_putByHabit_8 ?_
  refine j_icmp_ne (tgt := 15) K d_Press_putByHabit_11 (by decide) (fun q => ?_) (fun q => ?_)
  · have h := if_f h q
    refine j_iconst (v := 0) K d_Press_putByHabit_15 (by decide) ?_
    refine j_istore (lv' := [(4, .int 0), (3, .int r1), (0, .ref this), (1, .ref a1), (2, .int a2)]) K d_Press_putByHabit_16 (by decide) rfl ?_
    refine j_sub [2, 3, 4, 1, 0] rfl ?_
    exact t_Press_putByHabit_18 K hN hr hlk N ρ N this a1 a2 r1 0 κ1 h
  · have h := if_t h q
    exact eret_v K h hr hlk d_Press_putByHabit_14
def b_Press_payAll_12 (N : Nat) : Nat → Nat → Nat → Int32 → Cz → Option (Cz)
  | 0, _, _, _, _ => none
  | n + 1, x0, x1, x2, κ => ck (isK κ x0 4) (bo (fr κ x0 0) (fun o5 => ck (isK κ o5 0) (if (fi κ o5 2) ≤ x2 then some κ else ck (isK κ x1 8) (bo (fr κ x1 0) (fun o8 => ck (isK κ o8 20) (ck (inb x2 (ln κ o8)) (bo (fr κ x0 0) (fun o11 => ck (isK κ o11 0) (bo (fr κ o11 4) (fun o13 => ck (isK κ o13 20) (ck (inb x2 (ln κ o13)) (if (ai κ o8 x2.toNatClampNeg) = (ai κ o13 x2.toNatClampNeg) then lt (x2 + 1) (fun v16 => b_Press_payAll_12 N n x0 x1 v16 κ) else bo (p_Press_payOne N x0 x1 x2 κ) (fun κ17 => lt (x2 + 1) (fun v18 => b_Press_payAll_12 N n x0 x1 v18 κ17))))))))))))))
set_option maxHeartbeats 4000000 in
set_option maxRecDepth 100000 in
theorem t_Press_payAll_12 {p : Program} {l : Launch} {e : Env} {s : State} {m : MethodId} {args : Array Value} {below : List Frame} {meth : Method} {c : Code} {D : va_G} {θ : Tc} {A : Nat → Prop} (K : KE p s m args c c_Press_payAll 3 "ErrataRow$Press" y_Press_payAll none D θ A) (hN : NX s) (hr : meth.sig.returnType = none) (hlk : meth.locks = false) (N : Nat) (ρ : Cz) : ∀ (n : Nat) (x0 : Nat) (x1 : Nat) (x2 : Int32) (κ : Cz), b_Press_payAll_12 N n x0 x1 x2 κ = some ρ → JE p l e (rmA 2 0 0) s m args below meth c D θ A 3 0 0 (QEv below args s D θ A 0 0 ρ) κ [(0, .ref x0), (1, .ref x1), (2, .int x2)] [] 12 := by
  intro n
  induction n with
  | zero =>
    intro x0 x1 x2 κ h
    exact absurd h (by simp [b_Press_payAll_12])
  | succ n ih =>
    intro x0 x1 x2 κ h
    rw [b_Press_payAll_12] at h
    refine j_iload_n K 2 d_Press_payAll_12 rfl rfl ?_
    refine j_aload_n K 0 d_Press_payAll_13 rfl rfl ?_
    obtain ⟨q4, h⟩ := ck_e h
    refine eg_Press_book K ef_Press_21 q4 d_Press_payAll_14 ?_
    obtain ⟨o5, e5, h⟩ := bo_e h
    refine j_eqq e5 ?_
    obtain ⟨q6, h⟩ := ck_e h
    refine eg_Book_letters K ef_Press_25 q6 d_Press_payAll_17 ?_
    refine j_icmp_ge (tgt := 53) K d_Press_payAll_20 (by decide) (fun q => ?_) (fun q => ?_)
    · have h := if_t h q
      exact eret_v K h hr hlk d_Press_payAll_53
    · have h := if_f h q
      refine j_aload_n K 1 d_Press_payAll_23 rfl rfl ?_
      obtain ⟨q7, h⟩ := ck_e h
      refine eg_State_put K ef_Press_30 q7 d_Press_payAll_24 ?_
      obtain ⟨o8, e8, h⟩ := bo_e h
      refine j_eqq e8 ?_
      refine j_iload_n K 2 d_Press_payAll_27 rfl rfl ?_
      obtain ⟨q9, h⟩ := ck_e h
      obtain ⟨q10, h⟩ := ck_e h
      refine e_iald K q9 (inb_e q10) d_Press_payAll_28 ?_
      refine j_aload_n K 0 d_Press_payAll_29 rfl rfl ?_
      refine eg_Press_book K ef_Press_21 q4 d_Press_payAll_30 ?_
      obtain ⟨o11, e11, h⟩ := bo_e h
      refine j_eqq e11 ?_
      obtain ⟨q12, h⟩ := ck_e h
      refine eg_Book_meant K ef_Press_36 q12 d_Press_payAll_33 ?_
      obtain ⟨o13, e13, h⟩ := bo_e h
      refine j_eqq e13 ?_
      refine j_iload_n K 2 d_Press_payAll_36 rfl rfl ?_
      obtain ⟨q14, h⟩ := ck_e h
      obtain ⟨q15, h⟩ := ck_e h
      refine e_iald K q14 (inb_e q15) d_Press_payAll_37 ?_
      refine j_icmp_eq (tgt := 47) K d_Press_payAll_38 (by decide) (fun q => ?_) (fun q => ?_)
      · have h := if_t h q
        obtain ⟨v16, e16, h⟩ := lt_e h
        refine j_iinc (k := 2) (v := v16) (lv' := [(2, .int v16), (0, .ref x0), (1, .ref x1)]) K d_Press_payAll_47 rfl (by rw [e16]; rfl) (by decide) rfl ?_
        refine j_goto (tgt := 12) K d_Press_payAll_50 (by decide) ?_
        refine j_sub [1, 2, 0] rfl ?_
        exact ih x0 x1 v16 κ h
      · have h := if_f h q
        refine j_aload_n K 0 d_Press_payAll_41 rfl rfl ?_
        refine j_aload_n K 1 d_Press_payAll_42 rfl rfl ?_
        refine j_iload_n K 2 d_Press_payAll_43 rfl rfl ?_
        obtain ⟨κ17, e17, h⟩ := bo_e h
        refine ecallV_v K hN (c_Press_payOne_ok l D θ N x0 x1 x2 κ _ e17) eG_Press_124 eh_Press_payOne (by decide) (rmA_ok (by decide) (by decide)) rfl q4 (by decide) rfl (st := []) (Nat.le_of_ble_eq_true rfl) rfl d_Press_payAll_44 ⟨Nat.le_of_ble_eq_true rfl, Nat.le_of_ble_eq_true rfl⟩ ?_
        obtain ⟨v18, e18, h⟩ := lt_e h
        refine j_iinc (k := 2) (v := v18) (lv' := [(2, .int v18), (0, .ref x0), (1, .ref x1)]) K d_Press_payAll_47 rfl (by rw [e18]; rfl) (by decide) rfl ?_
        refine j_goto (tgt := 12) K d_Press_payAll_50 (by decide) ?_
        refine j_sub [1, 2, 0] rfl ?_
        exact ih x0 x1 v18 κ17 h
def p_Press_payAll (N : Nat) (this : Nat) (a1 : Nat) (κ : Cz) : Option (Cz) := ck (isK κ this 4) (lt (sfi this 4 0 κ) (fun κ2 => lt (sfi this 5 0 κ2) (fun κ3 => b_Press_payAll_12 N N this a1 0 κ3)))
set_option maxHeartbeats 4000000 in
set_option maxRecDepth 100000 in
theorem c_Press_payAll_ok (l : Launch) (D : va_G) (θ : Tc) (N : Nat) (this : Nat) (a1 : Nat) (κ : Cz) (ρ : Cz) (h : p_Press_payAll N this a1 κ = some ρ) : CEv l D θ y_Press_payAll c_Press_payAll 3 none 2 0 0 [.ref this, .ref a1] κ ρ := by
  intro sz
  refine e_met l [.ref this, .ref a1] (by decide +kernel) (Nat.le_of_ble_eq_true rfl) ?_
  intro p e s m args below meth c K hN hr hlk hnm hs
  generalize va_A (wE θ κ) sz = A at K ⊢
  have K : KE p s m args c c_Press_payAll 3 "ErrataRow$Press" y_Press_payAll none D θ A := K
  show JE p l e (rmA 2 0 0) s m args below meth c D θ A 3 0 0 (QEv below args s D θ A 0 0 ρ) κ [(0, .ref this), (1, .ref a1)] [] 0
  unfold p_Press_payAll at h
  refine j_aload_n K 0 d_Press_payAll_0 rfl rfl ?_
  refine j_iconst (v := 0) K d_Press_payAll_1 (by decide) ?_
  obtain ⟨q1, h⟩ := ck_e h
  obtain ⟨κ2, e2, h⟩ := lt_e h
  refine ep_Press_gotPaid K ef_Press_118 q1 d_Press_payAll_2 e2 ?_
  refine j_aload_n K 0 d_Press_payAll_5 rfl rfl ?_
  refine j_iconst (v := 0) K d_Press_payAll_6 (by decide) ?_
  obtain ⟨κ3, e3, h⟩ := lt_e h
  refine ep_Press_notPaid K ef_Press_121 (isK_sfi e2 q1) d_Press_payAll_7 e3 ?_
  refine j_iconst (v := 0) K d_Press_payAll_10 (by decide) ?_
  refine j_istore_n (lv' := [(2, .int 0), (0, .ref this), (1, .ref a1)]) K d_Press_payAll_11 rfl (by decide) rfl ?_
  refine j_sub [1, 2, 0] rfl ?_
  exact t_Press_payAll_12 K hN hr hlk N ρ N this a1 0 κ3 h
def p_Press_gainOf (N : Nat) (this : Nat) (a1 : Int32) (κ : Cz) : Option (Int32 × Cz) := ck (isK κ this 4) (bd (p_ErrataRow_hasBit N (fi κ this 4) a1 κ) (fun r2 κ2 => if r2 = 0 then ck (isK κ2 this 4) (bd (p_ErrataRow_hasBit N (fi κ2 this 5) a1 κ2) (fun r4 κ4 => if r4 = 0 then some (0, κ4) else some ((-1), κ4))) else some (1, κ2)))
set_option maxHeartbeats 4000000 in
set_option maxRecDepth 100000 in
theorem c_Press_gainOf_ok (l : Launch) (D : va_G) (θ : Tc) (N : Nat) (this : Nat) (a1 : Int32) (κ : Cz) (ρ : Int32 × Cz) (h : p_Press_gainOf N this a1 κ = some ρ) : CEi l D θ y_Press_gainOf c_Press_gainOf 2 (some .int) 2 0 0 [.ref this, .int a1] κ ρ := by
  intro sz
  refine e_met l [.ref this, .int a1] (by decide +kernel) (Nat.le_of_ble_eq_true rfl) ?_
  intro p e s m args below meth c K hN hr hlk hnm hs
  generalize va_A (wE θ κ) sz = A at K ⊢
  have K : KE p s m args c c_Press_gainOf 2 "ErrataRow$Press" y_Press_gainOf (some .int) D θ A := K
  show JE p l e (rmA 2 0 0) s m args below meth c D θ A 2 0 0 (QEi below args s D θ A 0 0 ρ) κ [(0, .ref this), (1, .int a1)] [] 0
  unfold p_Press_gainOf at h
  refine j_aload_n K 0 d_Press_gainOf_0 rfl rfl ?_
  obtain ⟨q1, h⟩ := ck_e h
  refine eg_Press_gotPaid K ef_Press_118 q1 d_Press_gainOf_1 ?_
  refine j_iload_n K 1 d_Press_gainOf_4 rfl rfl ?_
  obtain ⟨r2, κ2, e2, h⟩ := bd_e h
  refine ecallN_i K hN (c_ErrataRow_hasBit_ok l D θ N (fi κ this 4) a1 κ _ e2) ec_ErrataRow_hasBit ei_ErrataRow es_ErrataRow_hasBit (NX_Press_53 hN) eh_ErrataRow_hasBit (by decide) (rmA_ok (by decide) (by decide)) rfl (st := []) (Nat.le_of_ble_eq_true rfl) rfl d_Press_gainOf_5 ⟨Nat.le_of_ble_eq_true rfl, Nat.le_of_ble_eq_true rfl⟩ ?_
  refine j_if_eq (tgt := 13) K d_Press_gainOf_8 (by decide) (fun q => ?_) (fun q => ?_)
  · have h := if_t h q
    refine j_aload_n K 0 d_Press_gainOf_13 rfl rfl ?_
    obtain ⟨q3, h⟩ := ck_e h
    refine eg_Press_notPaid K ef_Press_121 q3 d_Press_gainOf_14 ?_
    refine j_iload_n K 1 d_Press_gainOf_17 rfl rfl ?_
    obtain ⟨r4, κ4, e4, h⟩ := bd_e h
    refine ecallN_i K hN (c_ErrataRow_hasBit_ok l D θ N (fi κ2 this 5) a1 κ2 _ e4) ec_ErrataRow_hasBit ei_ErrataRow es_ErrataRow_hasBit (NX_Press_53 hN) eh_ErrataRow_hasBit (by decide) (rmA_ok (by decide) (by decide)) rfl (st := []) (Nat.le_of_ble_eq_true rfl) rfl d_Press_gainOf_18 ⟨Nat.le_of_ble_eq_true rfl, Nat.le_of_ble_eq_true rfl⟩ ?_
    refine j_if_eq (tgt := 28) K d_Press_gainOf_21 (by decide) (fun q => ?_) (fun q => ?_)
    · have h := if_t h q
      refine j_iconst (v := 0) K d_Press_gainOf_28 (by decide) ?_
      exact eret_i K h hr hlk d_Press_gainOf_29
    · have h := if_f h q
      refine j_iconst (v := (-1)) K d_Press_gainOf_24 (by decide) ?_
      refine j_goto (tgt := 29) K d_Press_gainOf_25 (by decide) ?_
      exact eret_i K h hr hlk d_Press_gainOf_29
  · have h := if_f h q
    refine j_iconst (v := 1) K d_Press_gainOf_11 (by decide) ?_
    exact eret_i K h hr hlk d_Press_gainOf_12
def b_Rule_valueOf_6 (N : Nat) : Nat → Nat → Int32 → Nat → Int32 → Int32 → Cz → Option (Int64 × Cz)
  | 0, _, _, _, _, _, _ => none
  | n + 1, x0, x2, x3, x4, x5, κ => if x2 ≤ x5 then if x4 < 1 then some (0, κ) else ck (isK κ x0 6) (bo (fr κ x0 3) (fun o2 => lt (x4 - 1) (fun v3 => ck (isK κ o2 21) (ck (inb v3 (ln κ o2)) (some (al κ o2 v3.toNatClampNeg, κ)))))) else ck (isK κ x0 6) (bo (fr κ x0 0) (fun o7 => ck (isK κ o7 20) (ck (inb x5 (ln κ o7)) (lt (ai κ o7 x5.toNatClampNeg) (fun v10 => if v10 ≤ (-20) then if v10 = (-20) then if x4 < 1 then lt (x5 + 1) (fun v26 => b_Rule_valueOf_6 N n x0 x2 x3 x4 v26 κ) else bo (fr κ x0 3) (fun o27 => bo (fr κ x0 3) (fun o28 => lt (x4 - 1) (fun v29 => ck (isK κ o28 21) (ck (inb v29 (ln κ o28)) (if (lg_cmp (al κ o28 v29.toNatClampNeg) 0) = 0 then ck (isK κ o27 21) (ck (inb (x4 - 1) (ln κ o27)) (lt (sal o27 (vp_updL (al κ o27) (x4 - 1).toNatClampNeg (1 : Int64)) κ) (fun κ38 => lt (x5 + 1) (fun v39 => b_Rule_valueOf_6 N n x0 x2 x3 x4 v39 κ38)))) else ck (isK κ o27 21) (ck (inb (x4 - 1) (ln κ o27)) (lt (sal o27 (vp_updL (al κ o27) (x4 - 1).toNatClampNeg (0 : Int64)) κ) (fun κ34 => lt (x5 + 1) (fun v35 => b_Rule_valueOf_6 N n x0 x2 x3 x4 v35 κ34))))))))) else if x4 < 2 then lt (x5 + 1) (fun v11 => b_Rule_valueOf_6 N n x0 x2 x3 x4 v11 κ) else lt (x4 + (-1)) (fun v12 => bo (fr κ x0 3) (fun o13 => bo (fr κ x0 3) (fun o14 => lt (v12 - 1) (fun v15 => ck (isK κ o14 21) (ck (inb v15 (ln κ o14)) (bo (fr κ x0 3) (fun o18 => ck (isK κ o18 21) (ck (inb v12 (ln κ o18)) (bd (p_Rule_joined N v10 (al κ o14 v15.toNatClampNeg) (al κ o18 v12.toNatClampNeg) κ) (fun r21 κ21 => ck (isK κ21 o13 21) (ck (inb (v12 - 1) (ln κ21 o13)) (lt (sal o13 (vp_updL (al κ21 o13) (v12 - 1).toNatClampNeg r21) κ21) (fun κ24 => lt (x5 + 1) (fun v25 => b_Rule_valueOf_6 N n x0 x2 x3 v12 v25 κ24)))))))))))))) else bo (fr κ x0 3) (fun o40 => ck (isK κ o40 21) (if (nI (ln κ o40)) ≤ x4 then lt (x5 + 1) (fun v42 => b_Rule_valueOf_6 N n x0 x2 x3 x4 v42 κ) else bo (fr κ x0 3) (fun o43 => if v10 < 0 then lt ((-1) - v10) (fun v44 => ck (isK κ x3 21) (ck (inb v44 (ln κ x3)) (lt (al κ x3 v44.toNatClampNeg) (fun v47 => ck (isK κ o43 21) (ck (inb x4 (ln κ o43)) (lt (sal o43 (vp_updL (al κ o43) x4.toNatClampNeg v47) κ) (fun κ50 => lt (x4 + 1) (fun v51 => lt (x5 + 1) (fun v52 => b_Rule_valueOf_6 N n x0 x2 x3 v51 v52 κ50))))))))) else lt (v10.toInt64) (fun v53 => ck (isK κ o43 21) (ck (inb x4 (ln κ o43)) (lt (sal o43 (vp_updL (al κ o43) x4.toNatClampNeg v53) κ) (fun κ56 => lt (x4 + 1) (fun v57 => lt (x5 + 1) (fun v58 => b_Rule_valueOf_6 N n x0 x2 x3 v57 v58 κ56))))))))))))))
set_option maxHeartbeats 4000000 in
set_option maxRecDepth 100000 in
theorem t_Rule_valueOf_6 {p : Program} {l : Launch} {e : Env} {s : State} {m : MethodId} {args : Array Value} {below : List Frame} {meth : Method} {c : Code} {D : va_G} {θ : Tc} {A : Nat → Prop} (K : KE p s m args c c_Rule_valueOf 7 "ErrataRow$Rule" y_Rule_valueOf (some .long) D θ A) (hN : NX s) (hr : meth.sig.returnType = (some .long)) (hlk : meth.locks = false) (N : Nat) (ρ : Int64 × Cz) : ∀ (n : Nat) (x0 : Nat) (x2 : Int32) (x3 : Nat) (x4 : Int32) (x5 : Int32) (κ : Cz), b_Rule_valueOf_6 N n x0 x2 x3 x4 x5 κ = some ρ → JE p l e (rmA 2 0 0) s m args below meth c D θ A 7 0 0 (QEl below args s D θ A 0 0 ρ) κ [(0, .ref x0), (2, .int x2), (3, .ref x3), (4, .int x4), (5, .int x5)] [] 6 := by
  intro n
  induction n with
  | zero =>
    intro x0 x2 x3 x4 x5 κ h
    exact absurd h (by simp [b_Rule_valueOf_6])
  | succ n ih =>
    intro x0 x2 x3 x4 x5 κ h
    rw [b_Rule_valueOf_6] at h
    refine j_iload K 4 d_Rule_valueOf_6 rfl ?_
    refine j_iload_n K 1 d_Rule_valueOf_8 rfl rfl ?_
    refine j_icmp_ge (tgt := 157) K d_Rule_valueOf_9 (by decide) (fun q => ?_) (fun q => ?_)
    · have h := if_t h q
      refine j_iload K 3 d_Rule_valueOf_157 rfl ?_
      refine j_iconst (v := 1) K d_Rule_valueOf_159 (by decide) ?_
      refine j_icmp_lt (tgt := 175) K d_Rule_valueOf_160 (by decide) (fun q => ?_) (fun q => ?_)
      · have h := if_t h q
        refine j_lconst (v := 0) K d_Rule_valueOf_175 (by decide) ?_
        exact eret_l K h hr hlk d_Rule_valueOf_176
      · have h := if_f h q
        refine j_aload_n K 0 d_Rule_valueOf_163 rfl rfl ?_
        obtain ⟨q1, h⟩ := ck_e h
        refine eg_Rule_stack K ef_Rule_19 q1 d_Rule_valueOf_164 ?_
        obtain ⟨o2, e2, h⟩ := bo_e h
        refine j_eqq e2 ?_
        refine j_iload K 3 d_Rule_valueOf_167 rfl ?_
        refine j_iconst (v := 1) K d_Rule_valueOf_169 (by decide) ?_
        refine j_isub K d_Rule_valueOf_170 ?_
        obtain ⟨v3, e3, h⟩ := lt_e h
        refine j_eqi e3 ?_
        obtain ⟨q4, h⟩ := ck_e h
        obtain ⟨q5, h⟩ := ck_e h
        refine e_lald K q4 (inb_e q5) d_Rule_valueOf_171 ?_
        refine j_goto (tgt := 176) K d_Rule_valueOf_172 (by decide) ?_
        exact eret_l K h hr hlk d_Rule_valueOf_176
    · have h := if_f h q
      refine j_aload_n K 0 d_Rule_valueOf_12 rfl rfl ?_
      obtain ⟨q6, h⟩ := ck_e h
      refine eg_Rule_codes K ef_Rule_7 q6 d_Rule_valueOf_13 ?_
      obtain ⟨o7, e7, h⟩ := bo_e h
      refine j_eqq e7 ?_
      refine j_iload K 4 d_Rule_valueOf_16 rfl ?_
      obtain ⟨q8, h⟩ := ck_e h
      obtain ⟨q9, h⟩ := ck_e h
      refine e_iald K q8 (inb_e q9) d_Rule_valueOf_18 ?_
      obtain ⟨v10, e10, h⟩ := lt_e h
      refine j_eqi e10 ?_
      refine j_istore (lv' := [(6, .int v10), (0, .ref x0), (2, .int x2), (3, .ref x3), (4, .int x4), (5, .int x5)]) K d_Rule_valueOf_19 (by decide) rfl ?_
      refine j_iload K 0 d_Rule_valueOf_21 rfl ?_
      refine j_bipush (v := (-20)) K d_Rule_valueOf_23 (by decide) ?_
      refine j_icmp_le (tgt := 68) K d_Rule_valueOf_25 (by decide) (fun q => ?_) (fun q => ?_)
      · have h := if_t h q
        refine j_iload K 0 d_Rule_valueOf_68 rfl ?_
        refine j_bipush (v := (-20)) K d_Rule_valueOf_70 (by decide) ?_
        refine j_icmp_ne (tgt := 112) K d_Rule_valueOf_72 (by decide) (fun q => ?_) (fun q => ?_)
        · have h := if_f h q
          refine j_iload K 4 d_Rule_valueOf_112 rfl ?_
          refine j_iconst (v := 2) K d_Rule_valueOf_114 (by decide) ?_
          refine j_icmp_lt (tgt := 151) K d_Rule_valueOf_115 (by decide) (fun q => ?_) (fun q => ?_)
          · have h := if_t h q
            obtain ⟨v11, e11, h⟩ := lt_e h
            refine j_iinc (k := 5) (v := v11) (lv' := [(5, .int v11), (6, .int v10), (0, .ref x0), (2, .int x2), (3, .ref x3), (4, .int x4)]) K d_Rule_valueOf_151 rfl (by rw [e11]; rfl) (by decide) rfl ?_
            refine j_goto (tgt := 6) K d_Rule_valueOf_154 (by decide) ?_
            refine j_sub [2, 3, 4, 5, 0] rfl ?_
            exact ih x0 x2 x3 x4 v11 κ h
          · have h := if_f h q
            obtain ⟨v12, e12, h⟩ := lt_e h
            refine j_iinc (k := 4) (v := v12) (lv' := [(4, .int v12), (6, .int v10), (0, .ref x0), (2, .int x2), (3, .ref x3), (5, .int x5)]) K d_Rule_valueOf_118 rfl (by rw [e12]; rfl) (by decide) rfl ?_
            refine j_aload_n K 2 d_Rule_valueOf_121 rfl rfl ?_
            refine eg_Rule_stack K ef_Rule_19 q6 d_Rule_valueOf_122 ?_
            obtain ⟨o13, e13, h⟩ := bo_e h
            refine j_eqq e13 ?_
            refine j_iload K 0 d_Rule_valueOf_125 rfl ?_
            refine j_iconst (v := 1) K d_Rule_valueOf_127 (by decide) ?_
            refine j_isub K d_Rule_valueOf_128 ?_
            refine j_iload K 1 d_Rule_valueOf_129 rfl ?_
            refine j_aload_n K 2 d_Rule_valueOf_131 rfl rfl ?_
            refine eg_Rule_stack K ef_Rule_19 q6 d_Rule_valueOf_132 ?_
            obtain ⟨o14, e14, h⟩ := bo_e h
            refine j_eqq e14 ?_
            refine j_iload K 0 d_Rule_valueOf_135 rfl ?_
            refine j_iconst (v := 1) K d_Rule_valueOf_137 (by decide) ?_
            refine j_isub K d_Rule_valueOf_138 ?_
            obtain ⟨v15, e15, h⟩ := lt_e h
            refine j_eqi e15 ?_
            obtain ⟨q16, h⟩ := ck_e h
            obtain ⟨q17, h⟩ := ck_e h
            refine e_lald K q16 (inb_e q17) d_Rule_valueOf_139 ?_
            refine j_aload_n K 2 d_Rule_valueOf_140 rfl rfl ?_
            refine eg_Rule_stack K ef_Rule_19 q6 d_Rule_valueOf_141 ?_
            obtain ⟨o18, e18, h⟩ := bo_e h
            refine j_eqq e18 ?_
            refine j_iload K 0 d_Rule_valueOf_144 rfl ?_
            obtain ⟨q19, h⟩ := ck_e h
            obtain ⟨q20, h⟩ := ck_e h
            refine e_lald K q19 (inb_e q20) d_Rule_valueOf_146 ?_
            obtain ⟨r21, κ21, e21, h⟩ := bd_e h
            refine ecallS_l K hN (c_Rule_joined_ok l D θ N v10 (al κ o14 v15.toNatClampNeg) (al κ o18 v12.toNatClampNeg) κ _ e21) eG_Rule_27 eh_Rule_joined (by decide) (rmA_ok (by decide) (by decide)) rfl (st := [.int (v12 - 1), .ref o13]) (Nat.le_of_ble_eq_true rfl) rfl d_Rule_valueOf_147 ⟨Nat.le_of_ble_eq_true rfl, Nat.le_of_ble_eq_true rfl⟩ ?_
            obtain ⟨q22, h⟩ := ck_e h
            obtain ⟨q23, h⟩ := ck_e h
            obtain ⟨κ24, e24, h⟩ := lt_e h
            refine e_last K q22 (inb_e q23) d_Rule_valueOf_150 e24 ?_
            obtain ⟨v25, e25, h⟩ := lt_e h
            refine j_iinc (k := 5) (v := v25) (lv' := [(5, .int v25), (4, .int v12), (6, .int v10), (0, .ref x0), (2, .int x2), (3, .ref x3)]) K d_Rule_valueOf_151 rfl (by rw [e25]; rfl) (by decide) rfl ?_
            refine j_goto (tgt := 6) K d_Rule_valueOf_154 (by decide) ?_
            refine j_sub [3, 4, 5, 1, 0] rfl ?_
            exact ih x0 x2 x3 v12 v25 κ24 h
        · have h := if_t h q
          refine j_iload K 4 d_Rule_valueOf_75 rfl ?_
          refine j_iconst (v := 1) K d_Rule_valueOf_77 (by decide) ?_
          refine j_icmp_lt (tgt := 151) K d_Rule_valueOf_78 (by decide) (fun q => ?_) (fun q => ?_)
          · have h := if_t h q
            obtain ⟨v26, e26, h⟩ := lt_e h
            refine j_iinc (k := 5) (v := v26) (lv' := [(5, .int v26), (6, .int v10), (0, .ref x0), (2, .int x2), (3, .ref x3), (4, .int x4)]) K d_Rule_valueOf_151 rfl (by rw [e26]; rfl) (by decide) rfl ?_
            refine j_goto (tgt := 6) K d_Rule_valueOf_154 (by decide) ?_
            refine j_sub [2, 3, 4, 5, 0] rfl ?_
            exact ih x0 x2 x3 x4 v26 κ h
          · have h := if_f h q
            refine j_aload_n K 1 d_Rule_valueOf_81 rfl rfl ?_
            refine eg_Rule_stack K ef_Rule_19 q6 d_Rule_valueOf_82 ?_
            obtain ⟨o27, e27, h⟩ := bo_e h
            refine j_eqq e27 ?_
            refine j_iload K 4 d_Rule_valueOf_85 rfl ?_
            refine j_iconst (v := 1) K d_Rule_valueOf_87 (by decide) ?_
            refine j_isub K d_Rule_valueOf_88 ?_
            refine j_aload_n K 1 d_Rule_valueOf_89 rfl rfl ?_
            refine eg_Rule_stack K ef_Rule_19 q6 d_Rule_valueOf_90 ?_
            obtain ⟨o28, e28, h⟩ := bo_e h
            refine j_eqq e28 ?_
            refine j_iload K 4 d_Rule_valueOf_93 rfl ?_
            refine j_iconst (v := 1) K d_Rule_valueOf_95 (by decide) ?_
            refine j_isub K d_Rule_valueOf_96 ?_
            obtain ⟨v29, e29, h⟩ := lt_e h
            refine j_eqi e29 ?_
            obtain ⟨q30, h⟩ := ck_e h
            obtain ⟨q31, h⟩ := ck_e h
            refine e_lald K q30 (inb_e q31) d_Rule_valueOf_97 ?_
            refine j_lconst (v := 0) K d_Rule_valueOf_98 (by decide) ?_
            refine j_lcmp K d_Rule_valueOf_99 ?_
            refine j_if_ne (tgt := 107) K d_Rule_valueOf_100 (by decide) (fun q => ?_) (fun q => ?_)
            · have h := if_f h q
              refine j_lconst (v := 0) K d_Rule_valueOf_107 (by decide) ?_
              obtain ⟨q32, h⟩ := ck_e h
              obtain ⟨q33, h⟩ := ck_e h
              obtain ⟨κ34, e34, h⟩ := lt_e h
              refine e_last K q32 (inb_e q33) d_Rule_valueOf_108 e34 ?_
              refine j_goto (tgt := 151) K d_Rule_valueOf_109 (by decide) ?_
              obtain ⟨v35, e35, h⟩ := lt_e h
              refine j_iinc (k := 5) (v := v35) (lv' := [(5, .int v35), (6, .int v10), (0, .ref x0), (2, .int x2), (3, .ref x3), (4, .int x4)]) K d_Rule_valueOf_151 rfl (by rw [e35]; rfl) (by decide) rfl ?_
              refine j_goto (tgt := 6) K d_Rule_valueOf_154 (by decide) ?_
              refine j_sub [2, 3, 4, 5, 0] rfl ?_
              exact ih x0 x2 x3 x4 v35 κ34 h
            · have h := if_t h q
              refine j_lconst (v := 1) K d_Rule_valueOf_103 (by decide) ?_
              refine j_goto (tgt := 108) K d_Rule_valueOf_104 (by decide) ?_
              obtain ⟨q36, h⟩ := ck_e h
              obtain ⟨q37, h⟩ := ck_e h
              obtain ⟨κ38, e38, h⟩ := lt_e h
              refine e_last K q36 (inb_e q37) d_Rule_valueOf_108 e38 ?_
              refine j_goto (tgt := 151) K d_Rule_valueOf_109 (by decide) ?_
              obtain ⟨v39, e39, h⟩ := lt_e h
              refine j_iinc (k := 5) (v := v39) (lv' := [(5, .int v39), (6, .int v10), (0, .ref x0), (2, .int x2), (3, .ref x3), (4, .int x4)]) K d_Rule_valueOf_151 rfl (by rw [e39]; rfl) (by decide) rfl ?_
              refine j_goto (tgt := 6) K d_Rule_valueOf_154 (by decide) ?_
              refine j_sub [2, 3, 4, 5, 0] rfl ?_
              exact ih x0 x2 x3 x4 v39 κ38 h
      · have h := if_f h q
        refine j_iload K 4 d_Rule_valueOf_28 rfl ?_
        refine j_aload_n K 1 d_Rule_valueOf_30 rfl rfl ?_
        refine eg_Rule_stack K ef_Rule_19 q6 d_Rule_valueOf_31 ?_
        obtain ⟨o40, e40, h⟩ := bo_e h
        refine j_eqq e40 ?_
        obtain ⟨q41, h⟩ := ck_e h
        refine e_alenL K q41 d_Rule_valueOf_34 ?_
        refine j_icmp_ge (tgt := 151) K d_Rule_valueOf_35 (by decide) (fun q => ?_) (fun q => ?_)
        · have h := if_t h q
          obtain ⟨v42, e42, h⟩ := lt_e h
          refine j_iinc (k := 5) (v := v42) (lv' := [(5, .int v42), (6, .int v10), (0, .ref x0), (2, .int x2), (3, .ref x3), (4, .int x4)]) K d_Rule_valueOf_151 rfl (by rw [e42]; rfl) (by decide) rfl ?_
          refine j_goto (tgt := 6) K d_Rule_valueOf_154 (by decide) ?_
          refine j_sub [2, 3, 4, 5, 0] rfl ?_
          exact ih x0 x2 x3 x4 v42 κ h
        · have h := if_f h q
          refine j_aload_n K 1 d_Rule_valueOf_38 rfl rfl ?_
          refine eg_Rule_stack K ef_Rule_19 q6 d_Rule_valueOf_39 ?_
          obtain ⟨o43, e43, h⟩ := bo_e h
          refine j_eqq e43 ?_
          refine j_iload K 4 d_Rule_valueOf_42 rfl ?_
          refine j_iload K 0 d_Rule_valueOf_44 rfl ?_
          refine j_if_lt (tgt := 55) K d_Rule_valueOf_46 (by decide) (fun q => ?_) (fun q => ?_)
          · have h := if_t h q
            refine j_aload_n K 3 d_Rule_valueOf_55 rfl rfl ?_
            refine j_iconst (v := (-1)) K d_Rule_valueOf_56 (by decide) ?_
            refine j_iload K 0 d_Rule_valueOf_57 rfl ?_
            refine j_isub K d_Rule_valueOf_59 ?_
            obtain ⟨v44, e44, h⟩ := lt_e h
            refine j_eqi e44 ?_
            obtain ⟨q45, h⟩ := ck_e h
            obtain ⟨q46, h⟩ := ck_e h
            refine e_lald K q45 (inb_e q46) d_Rule_valueOf_60 ?_
            obtain ⟨v47, e47, h⟩ := lt_e h
            refine j_eql e47 ?_
            obtain ⟨q48, h⟩ := ck_e h
            obtain ⟨q49, h⟩ := ck_e h
            obtain ⟨κ50, e50, h⟩ := lt_e h
            refine e_last K q48 (inb_e q49) d_Rule_valueOf_61 e50 ?_
            obtain ⟨v51, e51, h⟩ := lt_e h
            refine j_iinc (k := 4) (v := v51) (lv' := [(4, .int v51), (6, .int v10), (0, .ref x0), (2, .int x2), (3, .ref x3), (5, .int x5)]) K d_Rule_valueOf_62 rfl (by rw [e51]; rfl) (by decide) rfl ?_
            refine j_goto (tgt := 151) K d_Rule_valueOf_65 (by decide) ?_
            obtain ⟨v52, e52, h⟩ := lt_e h
            refine j_iinc (k := 5) (v := v52) (lv' := [(5, .int v52), (4, .int v51), (6, .int v10), (0, .ref x0), (2, .int x2), (3, .ref x3)]) K d_Rule_valueOf_151 rfl (by rw [e52]; rfl) (by decide) rfl ?_
            refine j_goto (tgt := 6) K d_Rule_valueOf_154 (by decide) ?_
            refine j_sub [3, 4, 5, 1, 0] rfl ?_
            exact ih x0 x2 x3 v51 v52 κ50 h
          · have h := if_f h q
            refine j_iload K 0 d_Rule_valueOf_49 rfl ?_
            refine j_i2l K d_Rule_valueOf_51 ?_
            refine j_goto (tgt := 61) K d_Rule_valueOf_52 (by decide) ?_
            obtain ⟨v53, e53, h⟩ := lt_e h
            refine j_eql e53 ?_
            obtain ⟨q54, h⟩ := ck_e h
            obtain ⟨q55, h⟩ := ck_e h
            obtain ⟨κ56, e56, h⟩ := lt_e h
            refine e_last K q54 (inb_e q55) d_Rule_valueOf_61 e56 ?_
            obtain ⟨v57, e57, h⟩ := lt_e h
            refine j_iinc (k := 4) (v := v57) (lv' := [(4, .int v57), (6, .int v10), (0, .ref x0), (2, .int x2), (3, .ref x3), (5, .int x5)]) K d_Rule_valueOf_62 rfl (by rw [e57]; rfl) (by decide) rfl ?_
            refine j_goto (tgt := 151) K d_Rule_valueOf_65 (by decide) ?_
            obtain ⟨v58, e58, h⟩ := lt_e h
            refine j_iinc (k := 5) (v := v58) (lv' := [(5, .int v58), (4, .int v57), (6, .int v10), (0, .ref x0), (2, .int x2), (3, .ref x3)]) K d_Rule_valueOf_151 rfl (by rw [e58]; rfl) (by decide) rfl ?_
            refine j_goto (tgt := 6) K d_Rule_valueOf_154 (by decide) ?_
            refine j_sub [3, 4, 5, 1, 0] rfl ?_
            exact ih x0 x2 x3 v57 v58 κ56 h
def p_Rule_valueOf (N : Nat) (this : Nat) (a1 : Int32) (a2 : Int32) (a3 : Nat) (κ : Cz) : Option (Int64 × Cz) := b_Rule_valueOf_6 N N this a2 a3 0 a1 κ
set_option maxHeartbeats 4000000 in
set_option maxRecDepth 100000 in
theorem c_Rule_valueOf_ok (l : Launch) (D : va_G) (θ : Tc) (N : Nat) (this : Nat) (a1 : Int32) (a2 : Int32) (a3 : Nat) (κ : Cz) (ρ : Int64 × Cz) (h : p_Rule_valueOf N this a1 a2 a3 κ = some ρ) : CEl l D θ y_Rule_valueOf c_Rule_valueOf 7 (some .long) 2 0 0 [.ref this, .int a1, .int a2, .ref a3] κ ρ := by
  intro sz
  refine e_met l [.ref this, .int a1, .int a2, .ref a3] (by decide +kernel) (Nat.le_of_ble_eq_true rfl) ?_
  intro p e s m args below meth c K hN hr hlk hnm hs
  generalize va_A (wE θ κ) sz = A at K ⊢
  have K : KE p s m args c c_Rule_valueOf 7 "ErrataRow$Rule" y_Rule_valueOf (some .long) D θ A := K
  show JE p l e (rmA 2 0 0) s m args below meth c D θ A 7 0 0 (QEl below args s D θ A 0 0 ρ) κ [(0, .ref this), (1, .int a1), (2, .int a2), (3, .ref a3)] [] 0
  unfold p_Rule_valueOf at h
  refine j_iconst (v := 0) K d_Rule_valueOf_0 (by decide) ?_
  refine j_istore (lv' := [(4, .int 0), (0, .ref this), (1, .int a1), (2, .int a2), (3, .ref a3)]) K d_Rule_valueOf_1 (by decide) rfl ?_
  refine j_iload_n K 2 d_Rule_valueOf_3 rfl rfl ?_
  refine j_istore (lv' := [(5, .int a1), (4, .int 0), (0, .ref this), (1, .int a1), (2, .int a2), (3, .ref a3)]) K d_Rule_valueOf_4 (by decide) rfl ?_
  refine j_sub [2, 4, 5, 1, 0] rfl ?_
  exact t_Rule_valueOf_6 K hN hr hlk N ρ N this a2 a3 0 a1 κ h
def b_Rule_asksFor_2 (N : Nat) : Nat → Nat → Int32 → Int32 → Cz → Option (Int32 × Cz)
  | 0, _, _, _, _ => none
  | n + 1, x0, x1, x2, κ => ck (isK κ x0 6) (bo (fr κ x0 0) (fun o2 => ck (isK κ o2 20) (if (nI (ln κ o2)) ≤ x2 then some (0, κ) else bo (fr κ x0 0) (fun o4 => ck (isK κ o4 20) (ck (inb x2 (ln κ o4)) (bd (p_Rule_codeOf N x1 κ) (fun r7 κ7 => if (ai κ o4 x2.toNatClampNeg) = r7 then some (1, κ7) else lt (x2 + 1) (fun v8 => b_Rule_asksFor_2 N n x0 x1 v8 κ7))))))))
set_option maxHeartbeats 4000000 in
set_option maxRecDepth 100000 in
theorem t_Rule_asksFor_2 {p : Program} {l : Launch} {e : Env} {s : State} {m : MethodId} {args : Array Value} {below : List Frame} {meth : Method} {c : Code} {D : va_G} {θ : Tc} {A : Nat → Prop} (K : KE p s m args c c_Rule_asksFor 3 "ErrataRow$Rule" y_Rule_asksFor (some .boolean) D θ A) (hN : NX s) (hr : meth.sig.returnType = (some .boolean)) (hlk : meth.locks = false) (N : Nat) (ρ : Int32 × Cz) : ∀ (n : Nat) (x0 : Nat) (x1 : Int32) (x2 : Int32) (κ : Cz), b_Rule_asksFor_2 N n x0 x1 x2 κ = some ρ → JE p l e (rmA 2 0 0) s m args below meth c D θ A 3 0 0 (QEi below args s D θ A 0 0 ρ) κ [(0, .ref x0), (1, .int x1), (2, .int x2)] [] 2 := by
  intro n
  induction n with
  | zero =>
    intro x0 x1 x2 κ h
    exact absurd h (by simp [b_Rule_asksFor_2])
  | succ n ih =>
    intro x0 x1 x2 κ h
    rw [b_Rule_asksFor_2] at h
    refine j_iload_n K 2 d_Rule_asksFor_2 rfl rfl ?_
    refine j_aload_n K 0 d_Rule_asksFor_3 rfl rfl ?_
    obtain ⟨q1, h⟩ := ck_e h
    refine eg_Rule_codes K ef_Rule_7 q1 d_Rule_asksFor_4 ?_
    obtain ⟨o2, e2, h⟩ := bo_e h
    refine j_eqq e2 ?_
    obtain ⟨q3, h⟩ := ck_e h
    refine e_alen K q3 d_Rule_asksFor_7 ?_
    refine j_icmp_ge (tgt := 32) K d_Rule_asksFor_8 (by decide) (fun q => ?_) (fun q => ?_)
    · have h := if_t h q
      refine j_iconst (v := 0) K d_Rule_asksFor_32 (by decide) ?_
      exact eret_z K h rfl hr hlk d_Rule_asksFor_33
    · have h := if_f h q
      refine j_aload_n K 0 d_Rule_asksFor_11 rfl rfl ?_
      refine eg_Rule_codes K ef_Rule_7 q1 d_Rule_asksFor_12 ?_
      obtain ⟨o4, e4, h⟩ := bo_e h
      refine j_eqq e4 ?_
      refine j_iload_n K 2 d_Rule_asksFor_15 rfl rfl ?_
      obtain ⟨q5, h⟩ := ck_e h
      obtain ⟨q6, h⟩ := ck_e h
      refine e_iald K q5 (inb_e q6) d_Rule_asksFor_16 ?_
      refine j_iload_n K 1 d_Rule_asksFor_17 rfl rfl ?_
      obtain ⟨r7, κ7, e7, h⟩ := bd_e h
      refine ecallS_i K hN (c_Rule_codeOf_ok l D θ N x1 κ _ e7) eG_Rule_31 eh_Rule_codeOf (by decide) (rmA_ok (by decide) (by decide)) rfl (st := [.int (ai κ o4 x2.toNatClampNeg)]) (Nat.le_of_ble_eq_true rfl) rfl d_Rule_asksFor_18 ⟨Nat.le_of_ble_eq_true rfl, Nat.le_of_ble_eq_true rfl⟩ ?_
      refine j_icmp_ne (tgt := 26) K d_Rule_asksFor_21 (by decide) (fun q => ?_) (fun q => ?_)
      · have h := if_f h q
        obtain ⟨v8, e8, h⟩ := lt_e h
        refine j_iinc (k := 2) (v := v8) (lv' := [(2, .int v8), (0, .ref x0), (1, .int x1)]) K d_Rule_asksFor_26 rfl (by rw [e8]; rfl) (by decide) rfl ?_
        refine j_goto (tgt := 2) K d_Rule_asksFor_29 (by decide) ?_
        refine j_sub [1, 2, 0] rfl ?_
        exact ih x0 x1 v8 κ7 h
      · have h := if_t h q
        refine j_iconst (v := 1) K d_Rule_asksFor_24 (by decide) ?_
        exact eret_z K h rfl hr hlk d_Rule_asksFor_25
def p_Rule_asksFor (N : Nat) (this : Nat) (a1 : Int32) (κ : Cz) : Option (Int32 × Cz) := b_Rule_asksFor_2 N N this a1 0 κ
set_option maxHeartbeats 4000000 in
set_option maxRecDepth 100000 in
theorem c_Rule_asksFor_ok (l : Launch) (D : va_G) (θ : Tc) (N : Nat) (this : Nat) (a1 : Int32) (κ : Cz) (ρ : Int32 × Cz) (h : p_Rule_asksFor N this a1 κ = some ρ) : CEi l D θ y_Rule_asksFor c_Rule_asksFor 3 (some .boolean) 2 0 0 [.ref this, .int a1] κ ρ := by
  intro sz
  refine e_met l [.ref this, .int a1] (by decide +kernel) (Nat.le_of_ble_eq_true rfl) ?_
  intro p e s m args below meth c K hN hr hlk hnm hs
  generalize va_A (wE θ κ) sz = A at K ⊢
  have K : KE p s m args c c_Rule_asksFor 3 "ErrataRow$Rule" y_Rule_asksFor (some .boolean) D θ A := K
  show JE p l e (rmA 2 0 0) s m args below meth c D θ A 3 0 0 (QEi below args s D θ A 0 0 ρ) κ [(0, .ref this), (1, .int a1)] [] 0
  unfold p_Rule_asksFor at h
  refine j_iconst (v := 0) K d_Rule_asksFor_0 (by decide) ?_
  refine j_istore_n (lv' := [(2, .int 0), (0, .ref this), (1, .int a1)]) K d_Rule_asksFor_1 rfl (by decide) rfl ?_
  refine j_sub [1, 2, 0] rfl ?_
  exact t_Rule_asksFor_2 K hN hr hlk N ρ N this a1 0 κ h
def b_RuleReader_readValue_77 (N : Nat) (x0 : Nat) (x1 : Int32) (κ : Cz) : Option (Cz) := ck (isK κ x0 7) (if (fi κ x0 6) < 60 then lt ((fi κ x0 6) + 1) (fun v8 => lt (sfi x0 6 v8 κ) (fun κ9 => if x1 = 0 then bo (fr κ9 x0 0) (fun o10 => ck (isK κ9 o10 9) (bo (p_RuleReader_add N x0 (fi κ9 o10 6) κ9) (fun κ12 => ck (isK κ12 x0 7) (bo (fr κ12 x0 0) (fun o14 => ck (isK κ12 o14 9) (bo (p_Tokens_goOn N o14 κ12) (fun κ15 => some κ15))))))) else bo (fr κ9 x0 0) (fun o17 => ck (isK κ9 o17 9) (bd (p_Rule_codeOf N (fi κ9 o17 6) κ9) (fun r19 κ19 => ck (isK κ19 x0 7) (bo (p_RuleReader_add N x0 r19 κ19) (fun κ20 => ck (isK κ20 x0 7) (bo (fr κ20 x0 0) (fun o23 => ck (isK κ20 o23 9) (bo (p_Tokens_goOn N o23 κ20) (fun κ24 => some κ24))))))))))) else bo (fr κ x0 0) (fun o26 => ck (isK κ o26 9) (bo (p_Tokens_fail N o26 3 κ) (fun κ27 => some κ27))))
set_option maxHeartbeats 4000000 in
set_option maxRecDepth 100000 in
theorem t_RuleReader_readValue_77 {p : Program} {l : Launch} {e : Env} {s : State} {m : MethodId} {args : Array Value} {below : List Frame} {meth : Method} {c : Code} {D : va_G} {θ : Tc} {A : Nat → Prop} (K : KE p s m args c c_RuleReader_readValue 2 "ErrataRow$RuleReader" y_RuleReader_readValue none D θ A) (hN : NX s) (hr : meth.sig.returnType = none) (hlk : meth.locks = false) (N : Nat) (ρ : Cz) (x0 : Nat) (x1 : Int32) (κ : Cz) (h : b_RuleReader_readValue_77 N x0 x1 κ = some ρ) : JE p l e (rmA 2 0 0) s m args below meth c D θ A 2 0 0 (QEv below args s D θ A 0 0 ρ) κ [(0, .ref x0), (1, .int x1)] [] 77 := by
  unfold b_RuleReader_readValue_77 at h
  refine j_aload_n K 0 d_RuleReader_readValue_77 rfl rfl ?_
  obtain ⟨q7, h⟩ := ck_e h
  refine eg_RuleReader_values K ef_RuleReader_43 q7 d_RuleReader_readValue_78 ?_
  refine j_bipush (v := 60) K d_RuleReader_readValue_81 (by decide) ?_
  refine j_icmp_lt (tgt := 97) K d_RuleReader_readValue_83 (by decide) (fun q => ?_) (fun q => ?_)
  · have h := if_t h q
    refine j_aload_n K 0 d_RuleReader_readValue_97 rfl rfl ?_
    refine j_dup K d_RuleReader_readValue_98 rfl ?_
    refine eg_RuleReader_values K ef_RuleReader_43 q7 d_RuleReader_readValue_99 ?_
    refine j_iconst (v := 1) K d_RuleReader_readValue_102 (by decide) ?_
    refine j_iadd K d_RuleReader_readValue_103 ?_
    obtain ⟨v8, e8, h⟩ := lt_e h
    refine j_eqi e8 ?_
    obtain ⟨κ9, e9, h⟩ := lt_e h
    refine ep_RuleReader_values K ef_RuleReader_43 q7 d_RuleReader_readValue_104 e9 ?_
    refine j_aload_n K 0 d_RuleReader_readValue_107 rfl rfl ?_
    refine j_iload_n K 1 d_RuleReader_readValue_108 rfl rfl ?_
    refine j_if_eq (tgt := 125) K d_RuleReader_readValue_109 (by decide) (fun q => ?_) (fun q => ?_)
    · have h := if_t h q
      refine j_aload_n K 0 d_RuleReader_readValue_125 rfl rfl ?_
      refine eg_RuleReader_tokens K ef_RuleReader_21 (isK_sfi e9 q7) d_RuleReader_readValue_126 ?_
      obtain ⟨o10, e10, h⟩ := bo_e h
      refine j_eqq e10 ?_
      obtain ⟨q11, h⟩ := ck_e h
      refine eg_Tokens_value K ef_RuleReader_99 q11 d_RuleReader_readValue_129 ?_
      obtain ⟨κ12, e12, h⟩ := bo_e h
      refine ecallV_v K hN (c_RuleReader_add_ok l D θ N x0 (fi κ9 o10 6) κ9 _ e12) eG_RuleReader_77 eh_RuleReader_add (by decide) (rmA_ok (by decide) (by decide)) rfl (isK_sfi e9 q7) (by decide) rfl (st := []) (Nat.le_of_ble_eq_true rfl) rfl d_RuleReader_readValue_132 ⟨Nat.le_of_ble_eq_true rfl, Nat.le_of_ble_eq_true rfl⟩ ?_
      refine j_aload_n K 0 d_RuleReader_readValue_135 rfl rfl ?_
      obtain ⟨q13, h⟩ := ck_e h
      refine eg_RuleReader_tokens K ef_RuleReader_21 q13 d_RuleReader_readValue_136 ?_
      obtain ⟨o14, e14, h⟩ := bo_e h
      refine j_eqq e14 ?_
      obtain ⟨q16, h⟩ := ck_e h
      obtain ⟨κ15, e15, h⟩ := bo_e h
      refine ecallV_v K hN (c_Tokens_goOn_ok l D θ N o14 κ12 _ e15) eG_RuleReader_59 eh_Tokens_goOn (by decide) (rmA_ok (by decide) (by decide)) rfl q16 (by decide) rfl (st := []) (Nat.le_of_ble_eq_true rfl) rfl d_RuleReader_readValue_139 ⟨Nat.le_of_ble_eq_true rfl, Nat.le_of_ble_eq_true rfl⟩ ?_
      exact eret_v K h hr hlk d_RuleReader_readValue_142
    · have h := if_f h q
      refine j_aload_n K 0 d_RuleReader_readValue_112 rfl rfl ?_
      refine eg_RuleReader_tokens K ef_RuleReader_21 (isK_sfi e9 q7) d_RuleReader_readValue_113 ?_
      obtain ⟨o17, e17, h⟩ := bo_e h
      refine j_eqq e17 ?_
      obtain ⟨q18, h⟩ := ck_e h
      refine eg_Tokens_value K ef_RuleReader_99 q18 d_RuleReader_readValue_116 ?_
      obtain ⟨r19, κ19, e19, h⟩ := bd_e h
      refine ecallS_i K hN (c_Rule_codeOf_ok l D θ N (fi κ9 o17 6) κ9 _ e19) eG_RuleReader_102 eh_Rule_codeOf (by decide) (rmA_ok (by decide) (by decide)) rfl (st := [.ref x0]) (Nat.le_of_ble_eq_true rfl) rfl d_RuleReader_readValue_119 ⟨Nat.le_of_ble_eq_true rfl, Nat.le_of_ble_eq_true rfl⟩ ?_
      refine j_goto (tgt := 132) K d_RuleReader_readValue_122 (by decide) ?_
      obtain ⟨q21, h⟩ := ck_e h
      obtain ⟨κ20, e20, h⟩ := bo_e h
      refine ecallV_v K hN (c_RuleReader_add_ok l D θ N x0 r19 κ19 _ e20) eG_RuleReader_77 eh_RuleReader_add (by decide) (rmA_ok (by decide) (by decide)) rfl q21 (by decide) rfl (st := []) (Nat.le_of_ble_eq_true rfl) rfl d_RuleReader_readValue_132 ⟨Nat.le_of_ble_eq_true rfl, Nat.le_of_ble_eq_true rfl⟩ ?_
      refine j_aload_n K 0 d_RuleReader_readValue_135 rfl rfl ?_
      obtain ⟨q22, h⟩ := ck_e h
      refine eg_RuleReader_tokens K ef_RuleReader_21 q22 d_RuleReader_readValue_136 ?_
      obtain ⟨o23, e23, h⟩ := bo_e h
      refine j_eqq e23 ?_
      obtain ⟨q25, h⟩ := ck_e h
      obtain ⟨κ24, e24, h⟩ := bo_e h
      refine ecallV_v K hN (c_Tokens_goOn_ok l D θ N o23 κ20 _ e24) eG_RuleReader_59 eh_Tokens_goOn (by decide) (rmA_ok (by decide) (by decide)) rfl q25 (by decide) rfl (st := []) (Nat.le_of_ble_eq_true rfl) rfl d_RuleReader_readValue_139 ⟨Nat.le_of_ble_eq_true rfl, Nat.le_of_ble_eq_true rfl⟩ ?_
      exact eret_v K h hr hlk d_RuleReader_readValue_142
  · have h := if_f h q
    refine j_aload_n K 0 d_RuleReader_readValue_86 rfl rfl ?_
    refine eg_RuleReader_tokens K ef_RuleReader_21 q7 d_RuleReader_readValue_87 ?_
    obtain ⟨o26, e26, h⟩ := bo_e h
    refine j_eqq e26 ?_
    refine j_iconst (v := 3) K d_RuleReader_readValue_90 (by decide) ?_
    obtain ⟨q28, h⟩ := ck_e h
    obtain ⟨κ27, e27, h⟩ := bo_e h
    refine ecallV_v K hN (c_Tokens_fail_ok l D θ N o26 3 κ _ e27) eG_RuleReader_52 eh_Tokens_fail (by decide) (rmA_ok (by decide) (by decide)) rfl q28 (by decide) rfl (st := []) (Nat.le_of_ble_eq_true rfl) rfl d_RuleReader_readValue_91 ⟨Nat.le_of_ble_eq_true rfl, Nat.le_of_ble_eq_true rfl⟩ ?_
    refine j_goto (tgt := 142) K d_RuleReader_readValue_94 (by decide) ?_
    exact eret_v K h hr hlk d_RuleReader_readValue_142
def b_RuleReader_readValue_28 (N : Nat) (x0 : Nat) (t0 : Int32) (κ : Cz) : Option (Cz) := ck (isK κ x0 7) (bo (fr κ x0 0) (fun o5 => ck (isK κ o5 9) (if (fi κ o5 5) = 2 then bo (fr κ x0 0) (fun o34 => ck (isK κ o34 9) (bo (p_Tokens_fail N o34 1 κ) (fun κ35 => some κ35))) else if t0 = 0 then bo (fr κ x0 0) (fun o29 => ck (isK κ o29 9) (if (fi κ o29 5) = 1 then b_RuleReader_readValue_77 N x0 t0 κ else bo (fr κ x0 0) (fun o31 => ck (isK κ o31 9) (bo (p_Tokens_fail N o31 0 κ) (fun κ32 => some κ32))))) else b_RuleReader_readValue_77 N x0 t0 κ)))
set_option maxHeartbeats 4000000 in
set_option maxRecDepth 100000 in
theorem t_RuleReader_readValue_28 {p : Program} {l : Launch} {e : Env} {s : State} {m : MethodId} {args : Array Value} {below : List Frame} {meth : Method} {c : Code} {D : va_G} {θ : Tc} {A : Nat → Prop} (K : KE p s m args c c_RuleReader_readValue 2 "ErrataRow$RuleReader" y_RuleReader_readValue none D θ A) (hN : NX s) (hr : meth.sig.returnType = none) (hlk : meth.locks = false) (N : Nat) (ρ : Cz) (x0 : Nat) (t0 : Int32) (κ : Cz) (h : b_RuleReader_readValue_28 N x0 t0 κ = some ρ) : JE p l e (rmA 2 0 0) s m args below meth c D θ A 2 0 0 (QEv below args s D θ A 0 0 ρ) κ [(0, .ref x0)] [.int t0] 28 := by
  unfold b_RuleReader_readValue_28 at h
  refine j_istore_n (lv' := [(1, .int t0), (0, .ref x0)]) K d_RuleReader_readValue_28 rfl (by decide) rfl ?_
  refine j_aload_n K 1 d_RuleReader_readValue_29 rfl rfl ?_
  obtain ⟨q4, h⟩ := ck_e h
  refine eg_RuleReader_tokens K ef_RuleReader_21 q4 d_RuleReader_readValue_30 ?_
  obtain ⟨o5, e5, h⟩ := bo_e h
  refine j_eqq e5 ?_
  obtain ⟨q6, h⟩ := ck_e h
  refine eg_Tokens_kind K ef_RuleReader_68 q6 d_RuleReader_readValue_33 ?_
  refine j_iconst (v := 2) K d_RuleReader_readValue_36 (by decide) ?_
  refine j_icmp_ne (tgt := 51) K d_RuleReader_readValue_37 (by decide) (fun q => ?_) (fun q => ?_)
  · have h := if_f h q
    refine j_iload_n K 0 d_RuleReader_readValue_51 rfl rfl ?_
    refine j_if_ne (tgt := 77) K d_RuleReader_readValue_52 (by decide) (fun q => ?_) (fun q => ?_)
    · have h := if_f h q
      refine j_sub [1, 0] rfl ?_
      exact t_RuleReader_readValue_77 K hN hr hlk N ρ x0 t0 κ h
    · have h := if_t h q
      refine j_aload_n K 1 d_RuleReader_readValue_55 rfl rfl ?_
      refine eg_RuleReader_tokens K ef_RuleReader_21 q4 d_RuleReader_readValue_56 ?_
      obtain ⟨o29, e29, h⟩ := bo_e h
      refine j_eqq e29 ?_
      obtain ⟨q30, h⟩ := ck_e h
      refine eg_Tokens_kind K ef_RuleReader_68 q30 d_RuleReader_readValue_59 ?_
      refine j_iconst (v := 1) K d_RuleReader_readValue_62 (by decide) ?_
      refine j_icmp_eq (tgt := 77) K d_RuleReader_readValue_63 (by decide) (fun q => ?_) (fun q => ?_)
      · have h := if_t h q
        refine j_sub [1, 0] rfl ?_
        exact t_RuleReader_readValue_77 K hN hr hlk N ρ x0 t0 κ h
      · have h := if_f h q
        refine j_aload_n K 1 d_RuleReader_readValue_66 rfl rfl ?_
        refine eg_RuleReader_tokens K ef_RuleReader_21 q4 d_RuleReader_readValue_67 ?_
        obtain ⟨o31, e31, h⟩ := bo_e h
        refine j_eqq e31 ?_
        refine j_iconst (v := 0) K d_RuleReader_readValue_70 (by decide) ?_
        obtain ⟨q33, h⟩ := ck_e h
        obtain ⟨κ32, e32, h⟩ := bo_e h
        refine ecallV_v K hN (c_Tokens_fail_ok l D θ N o31 0 κ _ e32) eG_RuleReader_52 eh_Tokens_fail (by decide) (rmA_ok (by decide) (by decide)) rfl q33 (by decide) rfl (st := []) (Nat.le_of_ble_eq_true rfl) rfl d_RuleReader_readValue_71 ⟨Nat.le_of_ble_eq_true rfl, Nat.le_of_ble_eq_true rfl⟩ ?_
        refine j_goto (tgt := 142) K d_RuleReader_readValue_74 (by decide) ?_
        exact eret_v K h hr hlk d_RuleReader_readValue_142
  · have h := if_t h q
    refine j_aload_n K 1 d_RuleReader_readValue_40 rfl rfl ?_
    refine eg_RuleReader_tokens K ef_RuleReader_21 q4 d_RuleReader_readValue_41 ?_
    obtain ⟨o34, e34, h⟩ := bo_e h
    refine j_eqq e34 ?_
    refine j_iconst (v := 1) K d_RuleReader_readValue_44 (by decide) ?_
    obtain ⟨q36, h⟩ := ck_e h
    obtain ⟨κ35, e35, h⟩ := bo_e h
    refine ecallV_v K hN (c_Tokens_fail_ok l D θ N o34 1 κ _ e35) eG_RuleReader_52 eh_Tokens_fail (by decide) (rmA_ok (by decide) (by decide)) rfl q36 (by decide) rfl (st := []) (Nat.le_of_ble_eq_true rfl) rfl d_RuleReader_readValue_45 ⟨Nat.le_of_ble_eq_true rfl, Nat.le_of_ble_eq_true rfl⟩ ?_
    refine j_goto (tgt := 142) K d_RuleReader_readValue_48 (by decide) ?_
    exact eret_v K h hr hlk d_RuleReader_readValue_142
def b_RuleReader_readValue_27 (N : Nat) (x0 : Nat) (κ : Cz) : Option (Cz) := b_RuleReader_readValue_28 N x0 0 κ
set_option maxHeartbeats 4000000 in
set_option maxRecDepth 100000 in
theorem t_RuleReader_readValue_27 {p : Program} {l : Launch} {e : Env} {s : State} {m : MethodId} {args : Array Value} {below : List Frame} {meth : Method} {c : Code} {D : va_G} {θ : Tc} {A : Nat → Prop} (K : KE p s m args c c_RuleReader_readValue 2 "ErrataRow$RuleReader" y_RuleReader_readValue none D θ A) (hN : NX s) (hr : meth.sig.returnType = none) (hlk : meth.locks = false) (N : Nat) (ρ : Cz) (x0 : Nat) (κ : Cz) (h : b_RuleReader_readValue_27 N x0 κ = some ρ) : JE p l e (rmA 2 0 0) s m args below meth c D θ A 2 0 0 (QEv below args s D θ A 0 0 ρ) κ [(0, .ref x0)] [] 27 := by
  unfold b_RuleReader_readValue_27 at h
  refine j_iconst (v := 0) K d_RuleReader_readValue_27 (by decide) ?_
  exact t_RuleReader_readValue_28 K hN hr hlk N ρ x0 0 κ h
def p_RuleReader_readValue (N : Nat) (this : Nat) (κ : Cz) : Option (Cz) := ck (isK κ this 7) (bo (fr κ this 0) (fun o2 => ck (isK κ o2 9) (if (fi κ o2 5) = 3 then bo (fr κ this 0) (fun o37 => ck (isK κ o37 9) (if 12 ≤ (fi κ o37 6) then b_RuleReader_readValue_27 N this κ else b_RuleReader_readValue_28 N this 1 κ)) else b_RuleReader_readValue_27 N this κ)))
set_option maxHeartbeats 4000000 in
set_option maxRecDepth 100000 in
theorem c_RuleReader_readValue_ok (l : Launch) (D : va_G) (θ : Tc) (N : Nat) (this : Nat) (κ : Cz) (ρ : Cz) (h : p_RuleReader_readValue N this κ = some ρ) : CEv l D θ y_RuleReader_readValue c_RuleReader_readValue 2 none 2 0 0 [.ref this] κ ρ := by
  intro sz
  refine e_met l [.ref this] (by decide +kernel) (Nat.le_of_ble_eq_true rfl) ?_
  intro p e s m args below meth c K hN hr hlk hnm hs
  generalize va_A (wE θ κ) sz = A at K ⊢
  have K : KE p s m args c c_RuleReader_readValue 2 "ErrataRow$RuleReader" y_RuleReader_readValue none D θ A := K
  show JE p l e (rmA 2 0 0) s m args below meth c D θ A 2 0 0 (QEv below args s D θ A 0 0 ρ) κ [(0, .ref this)] [] 0
  unfold p_RuleReader_readValue at h
  refine j_aload_n K 0 d_RuleReader_readValue_0 rfl rfl ?_
  obtain ⟨q1, h⟩ := ck_e h
  refine eg_RuleReader_tokens K ef_RuleReader_21 q1 d_RuleReader_readValue_1 ?_
  obtain ⟨o2, e2, h⟩ := bo_e h
  refine j_eqq e2 ?_
  obtain ⟨q3, h⟩ := ck_e h
  refine eg_Tokens_kind K ef_RuleReader_68 q3 d_RuleReader_readValue_4 ?_
  refine j_iconst (v := 3) K d_RuleReader_readValue_7 (by decide) ?_
  refine j_icmp_ne (tgt := 27) K d_RuleReader_readValue_8 (by decide) (fun q => ?_) (fun q => ?_)
  · have h := if_f h q
    exact t_RuleReader_readValue_27 K hN hr hlk N ρ this κ h
  · have h := if_t h q
    refine j_aload_n K 0 d_RuleReader_readValue_11 rfl rfl ?_
    refine eg_RuleReader_tokens K ef_RuleReader_21 q1 d_RuleReader_readValue_12 ?_
    obtain ⟨o37, e37, h⟩ := bo_e h
    refine j_eqq e37 ?_
    obtain ⟨q38, h⟩ := ck_e h
    refine eg_Tokens_value K ef_RuleReader_99 q38 d_RuleReader_readValue_15 ?_
    refine j_bipush (v := 12) K d_RuleReader_readValue_18 (by decide) ?_
    refine j_icmp_ge (tgt := 27) K d_RuleReader_readValue_20 (by decide) (fun q => ?_) (fun q => ?_)
    · have h := if_t h q
      exact t_RuleReader_readValue_27 K hN hr hlk N ρ this κ h
    · have h := if_f h q
      refine j_iconst (v := 1) K d_RuleReader_readValue_23 (by decide) ?_
      refine j_goto (tgt := 28) K d_RuleReader_readValue_24 (by decide) ?_
      exact t_RuleReader_readValue_28 K hN hr hlk N ρ this 1 κ h
def p_RuleReader_codeOfSum (N : Nat) (this : Nat) (κ : Cz) : Option (Int32 × Cz) := ck (isK κ this 7) (bo (fr κ this 0) (fun o2 => ck (isK κ o2 9) (bd (p_Tokens_isSign N o2 43 κ) (fun r3 κ3 => if r3 = 0 then ck (isK κ3 this 7) (bo (fr κ3 this 0) (fun o6 => ck (isK κ3 o6 9) (bd (p_Tokens_isSign N o6 45 κ3) (fun r7 κ7 => if r7 = 0 then some (0, κ7) else some ((-24), κ7))))) else some ((-23), κ3)))))
set_option maxHeartbeats 4000000 in
set_option maxRecDepth 100000 in
theorem c_RuleReader_codeOfSum_ok (l : Launch) (D : va_G) (θ : Tc) (N : Nat) (this : Nat) (κ : Cz) (ρ : Int32 × Cz) (h : p_RuleReader_codeOfSum N this κ = some ρ) : CEi l D θ y_RuleReader_codeOfSum c_RuleReader_codeOfSum 1 (some .int) 2 0 0 [.ref this] κ ρ := by
  intro sz
  refine e_met l [.ref this] (by decide +kernel) (Nat.le_of_ble_eq_true rfl) ?_
  intro p e s m args below meth c K hN hr hlk hnm hs
  generalize va_A (wE θ κ) sz = A at K ⊢
  have K : KE p s m args c c_RuleReader_codeOfSum 1 "ErrataRow$RuleReader" y_RuleReader_codeOfSum (some .int) D θ A := K
  show JE p l e (rmA 2 0 0) s m args below meth c D θ A 1 0 0 (QEi below args s D θ A 0 0 ρ) κ [(0, .ref this)] [] 0
  unfold p_RuleReader_codeOfSum at h
  refine j_aload_n K 0 d_RuleReader_codeOfSum_0 rfl rfl ?_
  obtain ⟨q1, h⟩ := ck_e h
  refine eg_RuleReader_tokens K ef_RuleReader_21 q1 d_RuleReader_codeOfSum_1 ?_
  obtain ⟨o2, e2, h⟩ := bo_e h
  refine j_eqq e2 ?_
  refine j_bipush (v := 43) K d_RuleReader_codeOfSum_4 (by decide) ?_
  obtain ⟨q4, h⟩ := ck_e h
  obtain ⟨r3, κ3, e3, h⟩ := bd_e h
  refine ecallV_i K hN (c_Tokens_isSign_ok l D θ N o2 43 κ _ e3) eG_RuleReader_80 eh_Tokens_isSign (by decide) (rmA_ok (by decide) (by decide)) rfl q4 (by decide) rfl (st := []) (Nat.le_of_ble_eq_true rfl) rfl d_RuleReader_codeOfSum_6 ⟨Nat.le_of_ble_eq_true rfl, Nat.le_of_ble_eq_true rfl⟩ ?_
  refine j_if_eq (tgt := 15) K d_RuleReader_codeOfSum_9 (by decide) (fun q => ?_) (fun q => ?_)
  · have h := if_t h q
    refine j_aload_n K 0 d_RuleReader_codeOfSum_15 rfl rfl ?_
    obtain ⟨q5, h⟩ := ck_e h
    refine eg_RuleReader_tokens K ef_RuleReader_21 q5 d_RuleReader_codeOfSum_16 ?_
    obtain ⟨o6, e6, h⟩ := bo_e h
    refine j_eqq e6 ?_
    refine j_bipush (v := 45) K d_RuleReader_codeOfSum_19 (by decide) ?_
    obtain ⟨q8, h⟩ := ck_e h
    obtain ⟨r7, κ7, e7, h⟩ := bd_e h
    refine ecallV_i K hN (c_Tokens_isSign_ok l D θ N o6 45 κ3 _ e7) eG_RuleReader_80 eh_Tokens_isSign (by decide) (rmA_ok (by decide) (by decide)) rfl q8 (by decide) rfl (st := []) (Nat.le_of_ble_eq_true rfl) rfl d_RuleReader_codeOfSum_21 ⟨Nat.le_of_ble_eq_true rfl, Nat.le_of_ble_eq_true rfl⟩ ?_
    refine j_if_eq (tgt := 32) K d_RuleReader_codeOfSum_24 (by decide) (fun q => ?_) (fun q => ?_)
    · have h := if_t h q
      refine j_iconst (v := 0) K d_RuleReader_codeOfSum_32 (by decide) ?_
      exact eret_i K h hr hlk d_RuleReader_codeOfSum_33
    · have h := if_f h q
      refine j_bipush (v := (-24)) K d_RuleReader_codeOfSum_27 (by decide) ?_
      refine j_goto (tgt := 33) K d_RuleReader_codeOfSum_29 (by decide) ?_
      exact eret_i K h hr hlk d_RuleReader_codeOfSum_33
  · have h := if_f h q
    refine j_bipush (v := (-23)) K d_RuleReader_codeOfSum_12 (by decide) ?_
    exact eret_i K h hr hlk d_RuleReader_codeOfSum_14
def p_State_clear (N : Nat) (this : Nat) (κ : Cz) : Option (Cz) := ck (isK κ this 8) (bo (fr κ this 0) (fun o2 => bo (p_Arrays_fill N o2 0 κ) (fun κ3 => ck (isK κ3 this 8) (bo (fr κ3 this 1) (fun o5 => bo (p_Arrays_fill N o5 0 κ3) (fun κ6 => ck (isK κ6 this 8) (bo (fr κ6 this 2) (fun o8 => bo (p_Arrays_fill N o8 0 κ6) (fun κ9 => ck (isK κ9 this 8) (lt (sfi this 3 0 κ9) (fun κ11 => lt (sfi this 4 0 κ11) (fun κ12 => lt (sfi this 5 0 κ12) (fun κ13 => some κ13)))))))))))))
set_option maxHeartbeats 4000000 in
set_option maxRecDepth 100000 in
theorem c_State_clear_ok (l : Launch) (D : va_G) (θ : Tc) (N : Nat) (this : Nat) (κ : Cz) (ρ : Cz) (h : p_State_clear N this κ = some ρ) : CEv l D θ y_State_clear c_State_clear 1 none 2 0 0 [.ref this] κ ρ := by
  intro sz
  refine e_met l [.ref this] (by decide +kernel) (Nat.le_of_ble_eq_true rfl) ?_
  intro p e s m args below meth c K hN hr hlk hnm hs
  generalize va_A (wE θ κ) sz = A at K ⊢
  have K : KE p s m args c c_State_clear 1 "ErrataRow$State" y_State_clear none D θ A := K
  show JE p l e (rmA 2 0 0) s m args below meth c D θ A 1 0 0 (QEv below args s D θ A 0 0 ρ) κ [(0, .ref this)] [] 0
  unfold p_State_clear at h
  refine j_aload_n K 0 d_State_clear_0 rfl rfl ?_
  obtain ⟨q1, h⟩ := ck_e h
  refine eg_State_put K ef_State_9 q1 d_State_clear_1 ?_
  obtain ⟨o2, e2, h⟩ := bo_e h
  refine j_eqq e2 ?_
  refine j_iconst (v := 0) K d_State_clear_4 (by decide) ?_
  obtain ⟨κ3, e3, h⟩ := bo_e h
  refine ecallS_v K hN (c_Arrays_fill_ok l D θ N o2 0 κ _ e3) eG_State_37 eh_Arrays_fill (by decide) (rmA_ok (by decide) (by decide)) rfl (st := []) (Nat.le_of_ble_eq_true rfl) rfl d_State_clear_5 ⟨Nat.le_of_ble_eq_true rfl, Nat.le_of_ble_eq_true rfl⟩ ?_
  refine j_aload_n K 0 d_State_clear_8 rfl rfl ?_
  obtain ⟨q4, h⟩ := ck_e h
  refine eg_State_paid K ef_State_15 q4 d_State_clear_9 ?_
  obtain ⟨o5, e5, h⟩ := bo_e h
  refine j_eqq e5 ?_
  refine j_iconst (v := 0) K d_State_clear_12 (by decide) ?_
  obtain ⟨κ6, e6, h⟩ := bo_e h
  refine ecallS_v K hN (c_Arrays_fill_ok l D θ N o5 0 κ3 _ e6) eG_State_37 eh_Arrays_fill (by decide) (rmA_ok (by decide) (by decide)) rfl (st := []) (Nat.le_of_ble_eq_true rfl) rfl d_State_clear_13 ⟨Nat.le_of_ble_eq_true rfl, Nat.le_of_ble_eq_true rfl⟩ ?_
  refine j_aload_n K 0 d_State_clear_16 rfl rfl ?_
  obtain ⟨q7, h⟩ := ck_e h
  refine eg_State_hangs K ef_State_18 q7 d_State_clear_17 ?_
  obtain ⟨o8, e8, h⟩ := bo_e h
  refine j_eqq e8 ?_
  refine j_iconst (v := 0) K d_State_clear_20 (by decide) ?_
  obtain ⟨κ9, e9, h⟩ := bo_e h
  refine ecallS_v K hN (c_Arrays_fill_ok l D θ N o8 0 κ6 _ e9) eG_State_37 eh_Arrays_fill (by decide) (rmA_ok (by decide) (by decide)) rfl (st := []) (Nat.le_of_ble_eq_true rfl) rfl d_State_clear_21 ⟨Nat.le_of_ble_eq_true rfl, Nat.le_of_ble_eq_true rfl⟩ ?_
  refine j_aload_n K 0 d_State_clear_24 rfl rfl ?_
  refine j_iconst (v := 0) K d_State_clear_25 (by decide) ?_
  obtain ⟨q10, h⟩ := ck_e h
  obtain ⟨κ11, e11, h⟩ := lt_e h
  refine ep_State_purse K ef_State_27 q10 d_State_clear_26 e11 ?_
  refine j_aload_n K 0 d_State_clear_29 rfl rfl ?_
  refine j_iconst (v := 0) K d_State_clear_30 (by decide) ?_
  obtain ⟨κ12, e12, h⟩ := lt_e h
  refine ep_State_owed K ef_State_31 (isK_sfi e11 q10) d_State_clear_31 e12 ?_
  refine j_aload_n K 0 d_State_clear_34 rfl rfl ?_
  refine j_iconst (v := 0) K d_State_clear_35 (by decide) ?_
  obtain ⟨κ13, e13, h⟩ := lt_e h
  refine ep_State_edition K ef_State_34 (isK_sfi e12 (isK_sfi e11 q10)) d_State_clear_36 e13 ?_
  exact eret_v K h hr hlk d_State_clear_39
def b_Tokens_splitNumber_51 (N : Nat) (x0 : Nat) (x3 : Int32) (x4 : Int32) (x5 : Int32) (κ : Cz) : Option (Int32 × Cz) := if (x5 - x3) ≤ 5 then ck (isK κ x0 9) (bo (p_Tokens_add N x0 1 x4 x3 κ) (fun κ1 => some (x5, κ1))) else ck (isK κ x0 9) (bo (p_Tokens_add N x0 2 x4 x3 κ) (fun κ3 => some (x5, κ3)))
set_option maxHeartbeats 4000000 in
set_option maxRecDepth 100000 in
theorem t_Tokens_splitNumber_51 {p : Program} {l : Launch} {e : Env} {s : State} {m : MethodId} {args : Array Value} {below : List Frame} {meth : Method} {c : Code} {D : va_G} {θ : Tc} {A : Nat → Prop} (K : KE p s m args c c_Tokens_splitNumber 6 "ErrataRow$Tokens" y_Tokens_splitNumber (some .int) D θ A) (hN : NX s) (hr : meth.sig.returnType = (some .int)) (hlk : meth.locks = false) (N : Nat) (ρ : Int32 × Cz) (x0 : Nat) (x3 : Int32) (x4 : Int32) (x5 : Int32) (κ : Cz) (h : b_Tokens_splitNumber_51 N x0 x3 x4 x5 κ = some ρ) : JE p l e (rmA 2 0 0) s m args below meth c D θ A 6 0 0 (QEi below args s D θ A 0 0 ρ) κ [(0, .ref x0), (3, .int x3), (4, .int x4), (5, .int x5)] [] 51 := by
  unfold b_Tokens_splitNumber_51 at h
  refine j_aload_n K 0 d_Tokens_splitNumber_51 rfl rfl ?_
  refine j_iload K 3 d_Tokens_splitNumber_52 rfl ?_
  refine j_iload_n K 1 d_Tokens_splitNumber_54 rfl rfl ?_
  refine j_isub K d_Tokens_splitNumber_55 ?_
  refine j_iconst (v := 5) K d_Tokens_splitNumber_56 (by decide) ?_
  refine j_icmp_le (tgt := 64) K d_Tokens_splitNumber_57 (by decide) (fun q => ?_) (fun q => ?_)
  · have h := if_t h q
    refine j_iconst (v := 1) K d_Tokens_splitNumber_64 (by decide) ?_
    refine j_iload K 2 d_Tokens_splitNumber_65 rfl ?_
    refine j_iload_n K 1 d_Tokens_splitNumber_67 rfl rfl ?_
    obtain ⟨q2, h⟩ := ck_e h
    obtain ⟨κ1, e1, h⟩ := bo_e h
    refine ecallV_v K hN (c_Tokens_add_ok l D θ N x0 1 x4 x3 κ _ e1) eG_Tokens_35 eh_Tokens_add (by decide) (rmA_ok (by decide) (by decide)) rfl q2 (by decide) rfl (st := []) (Nat.le_of_ble_eq_true rfl) rfl d_Tokens_splitNumber_68 ⟨Nat.le_of_ble_eq_true rfl, Nat.le_of_ble_eq_true rfl⟩ ?_
    refine j_iload K 3 d_Tokens_splitNumber_71 rfl ?_
    exact eret_i K h hr hlk d_Tokens_splitNumber_73
  · have h := if_f h q
    refine j_iconst (v := 2) K d_Tokens_splitNumber_60 (by decide) ?_
    refine j_goto (tgt := 65) K d_Tokens_splitNumber_61 (by decide) ?_
    refine j_iload K 2 d_Tokens_splitNumber_65 rfl ?_
    refine j_iload_n K 1 d_Tokens_splitNumber_67 rfl rfl ?_
    obtain ⟨q4, h⟩ := ck_e h
    obtain ⟨κ3, e3, h⟩ := bo_e h
    refine ecallV_v K hN (c_Tokens_add_ok l D θ N x0 2 x4 x3 κ _ e3) eG_Tokens_35 eh_Tokens_add (by decide) (rmA_ok (by decide) (by decide)) rfl q4 (by decide) rfl (st := []) (Nat.le_of_ble_eq_true rfl) rfl d_Tokens_splitNumber_68 ⟨Nat.le_of_ble_eq_true rfl, Nat.le_of_ble_eq_true rfl⟩ ?_
    refine j_iload K 3 d_Tokens_splitNumber_71 rfl ?_
    exact eret_i K h hr hlk d_Tokens_splitNumber_73
def b_Tokens_splitNumber_6 (N : Nat) : Nat → Nat → Nat → Int32 → Int32 → Int32 → Int32 → Cz → Option (Int32 × Cz)
  | 0, _, _, _, _, _, _, _ => none
  | n + 1, x0, x1, x2, x3, x4, x5, κ => if x2 ≤ x5 then b_Tokens_splitNumber_51 N x0 x3 x4 x5 κ else ck (isK κ x1 20) (ck (inb x5 (ln κ x1)) (bd (p_Tokens_isDigit N (ai κ x1 x5.toNatClampNeg) κ) (fun r7 κ7 => if r7 = 0 then b_Tokens_splitNumber_51 N x0 x3 x4 x5 κ7 else if 5 ≤ (x5 - x3) then lt (x5 + 1) (fun v8 => b_Tokens_splitNumber_6 N n x0 x1 x2 x3 x4 v8 κ7) else ck (isK κ7 x1 20) (ck (inb x5 (ln κ7 x1)) (lt (((x4 * 10) + (ai κ7 x1 x5.toNatClampNeg)) - 48) (fun v11 => lt (x5 + 1) (fun v12 => b_Tokens_splitNumber_6 N n x0 x1 x2 x3 v11 v12 κ7)))))))
set_option maxHeartbeats 4000000 in
set_option maxRecDepth 100000 in
theorem t_Tokens_splitNumber_6 {p : Program} {l : Launch} {e : Env} {s : State} {m : MethodId} {args : Array Value} {below : List Frame} {meth : Method} {c : Code} {D : va_G} {θ : Tc} {A : Nat → Prop} (K : KE p s m args c c_Tokens_splitNumber 6 "ErrataRow$Tokens" y_Tokens_splitNumber (some .int) D θ A) (hN : NX s) (hr : meth.sig.returnType = (some .int)) (hlk : meth.locks = false) (N : Nat) (ρ : Int32 × Cz) : ∀ (n : Nat) (x0 : Nat) (x1 : Nat) (x2 : Int32) (x3 : Int32) (x4 : Int32) (x5 : Int32) (κ : Cz), b_Tokens_splitNumber_6 N n x0 x1 x2 x3 x4 x5 κ = some ρ → JE p l e (rmA 2 0 0) s m args below meth c D θ A 6 0 0 (QEi below args s D θ A 0 0 ρ) κ [(0, .ref x0), (1, .ref x1), (2, .int x2), (3, .int x3), (4, .int x4), (5, .int x5)] [] 6 := by
  intro n
  induction n with
  | zero =>
    intro x0 x1 x2 x3 x4 x5 κ h
    exact absurd h (by simp [b_Tokens_splitNumber_6])
  | succ n ih =>
    intro x0 x1 x2 x3 x4 x5 κ h
    rw [b_Tokens_splitNumber_6] at h
    refine j_iload K 5 d_Tokens_splitNumber_6 rfl ?_
    refine j_iload_n K 2 d_Tokens_splitNumber_8 rfl rfl ?_
    refine j_icmp_ge (tgt := 51) K d_Tokens_splitNumber_9 (by decide) (fun q => ?_) (fun q => ?_)
    · have h := if_t h q
      refine j_sub [0, 3, 4, 5] rfl ?_
      exact t_Tokens_splitNumber_51 K hN hr hlk N ρ x0 x3 x4 x5 κ h
    · have h := if_f h q
      refine j_aload_n K 1 d_Tokens_splitNumber_12 rfl rfl ?_
      refine j_iload K 5 d_Tokens_splitNumber_13 rfl ?_
      obtain ⟨q5, h⟩ := ck_e h
      obtain ⟨q6, h⟩ := ck_e h
      refine e_iald K q5 (inb_e q6) d_Tokens_splitNumber_15 ?_
      obtain ⟨r7, κ7, e7, h⟩ := bd_e h
      refine ecallS_i K hN (c_Tokens_isDigit_ok l D θ N (ai κ x1 x5.toNatClampNeg) κ _ e7) eG_Tokens_51 eh_Tokens_isDigit (by decide) (rmA_ok (by decide) (by decide)) rfl (st := []) (Nat.le_of_ble_eq_true rfl) rfl d_Tokens_splitNumber_16 ⟨Nat.le_of_ble_eq_true rfl, Nat.le_of_ble_eq_true rfl⟩ ?_
      refine j_if_eq (tgt := 51) K d_Tokens_splitNumber_19 (by decide) (fun q => ?_) (fun q => ?_)
      · have h := if_t h q
        refine j_sub [0, 3, 4, 5] rfl ?_
        exact t_Tokens_splitNumber_51 K hN hr hlk N ρ x0 x3 x4 x5 κ7 h
      · have h := if_f h q
        refine j_iload K 5 d_Tokens_splitNumber_22 rfl ?_
        refine j_iload_n K 3 d_Tokens_splitNumber_24 rfl rfl ?_
        refine j_isub K d_Tokens_splitNumber_25 ?_
        refine j_iconst (v := 5) K d_Tokens_splitNumber_26 (by decide) ?_
        refine j_icmp_ge (tgt := 45) K d_Tokens_splitNumber_27 (by decide) (fun q => ?_) (fun q => ?_)
        · have h := if_t h q
          obtain ⟨v8, e8, h⟩ := lt_e h
          refine j_iinc (k := 5) (v := v8) (lv' := [(5, .int v8), (0, .ref x0), (1, .ref x1), (2, .int x2), (3, .int x3), (4, .int x4)]) K d_Tokens_splitNumber_45 rfl (by rw [e8]; rfl) (by decide) rfl ?_
          refine j_goto (tgt := 6) K d_Tokens_splitNumber_48 (by decide) ?_
          refine j_sub [1, 2, 3, 4, 5, 0] rfl ?_
          exact ih x0 x1 x2 x3 x4 v8 κ7 h
        · have h := if_f h q
          refine j_iload K 4 d_Tokens_splitNumber_30 rfl ?_
          refine j_bipush (v := 10) K d_Tokens_splitNumber_32 (by decide) ?_
          refine j_imul K d_Tokens_splitNumber_34 ?_
          refine j_aload_n K 1 d_Tokens_splitNumber_35 rfl rfl ?_
          refine j_iload K 5 d_Tokens_splitNumber_36 rfl ?_
          obtain ⟨q9, h⟩ := ck_e h
          obtain ⟨q10, h⟩ := ck_e h
          refine e_iald K q9 (inb_e q10) d_Tokens_splitNumber_38 ?_
          refine j_iadd K d_Tokens_splitNumber_39 ?_
          refine j_bipush (v := 48) K d_Tokens_splitNumber_40 (by decide) ?_
          refine j_isub K d_Tokens_splitNumber_42 ?_
          obtain ⟨v11, e11, h⟩ := lt_e h
          refine j_eqi e11 ?_
          refine j_istore (lv' := [(4, .int v11), (0, .ref x0), (1, .ref x1), (2, .int x2), (3, .int x3), (5, .int x5)]) K d_Tokens_splitNumber_43 (by decide) rfl ?_
          obtain ⟨v12, e12, h⟩ := lt_e h
          refine j_iinc (k := 5) (v := v12) (lv' := [(5, .int v12), (4, .int v11), (0, .ref x0), (1, .ref x1), (2, .int x2), (3, .int x3)]) K d_Tokens_splitNumber_45 rfl (by rw [e12]; rfl) (by decide) rfl ?_
          refine j_goto (tgt := 6) K d_Tokens_splitNumber_48 (by decide) ?_
          refine j_sub [2, 3, 4, 5, 1, 0] rfl ?_
          exact ih x0 x1 x2 x3 v11 v12 κ7 h
def p_Tokens_splitNumber (N : Nat) (this : Nat) (a1 : Nat) (a2 : Int32) (a3 : Int32) (κ : Cz) : Option (Int32 × Cz) := b_Tokens_splitNumber_6 N N this a1 a2 a3 0 a3 κ
set_option maxHeartbeats 4000000 in
set_option maxRecDepth 100000 in
theorem c_Tokens_splitNumber_ok (l : Launch) (D : va_G) (θ : Tc) (N : Nat) (this : Nat) (a1 : Nat) (a2 : Int32) (a3 : Int32) (κ : Cz) (ρ : Int32 × Cz) (h : p_Tokens_splitNumber N this a1 a2 a3 κ = some ρ) : CEi l D θ y_Tokens_splitNumber c_Tokens_splitNumber 6 (some .int) 2 0 0 [.ref this, .ref a1, .int a2, .int a3] κ ρ := by
  intro sz
  refine e_met l [.ref this, .ref a1, .int a2, .int a3] (by decide +kernel) (Nat.le_of_ble_eq_true rfl) ?_
  intro p e s m args below meth c K hN hr hlk hnm hs
  generalize va_A (wE θ κ) sz = A at K ⊢
  have K : KE p s m args c c_Tokens_splitNumber 6 "ErrataRow$Tokens" y_Tokens_splitNumber (some .int) D θ A := K
  show JE p l e (rmA 2 0 0) s m args below meth c D θ A 6 0 0 (QEi below args s D θ A 0 0 ρ) κ [(0, .ref this), (1, .ref a1), (2, .int a2), (3, .int a3)] [] 0
  unfold p_Tokens_splitNumber at h
  refine j_iconst (v := 0) K d_Tokens_splitNumber_0 (by decide) ?_
  refine j_istore (lv' := [(4, .int 0), (0, .ref this), (1, .ref a1), (2, .int a2), (3, .int a3)]) K d_Tokens_splitNumber_1 (by decide) rfl ?_
  refine j_iload_n K 4 d_Tokens_splitNumber_3 rfl rfl ?_
  refine j_istore (lv' := [(5, .int a3), (4, .int 0), (0, .ref this), (1, .ref a1), (2, .int a2), (3, .int a3)]) K d_Tokens_splitNumber_4 (by decide) rfl ?_
  refine j_sub [2, 3, 4, 5, 1, 0] rfl ?_
  exact t_Tokens_splitNumber_6 K hN hr hlk N ρ N this a1 a2 a3 0 a3 κ h
def p_Tokens_takeSign (N : Nat) (this : Nat) (a1 : Int32) (κ : Cz) : Option (Cz) := ck (isK κ this 9) (bd (p_Tokens_isSign N this a1 κ) (fun r1 κ1 => if r1 = 0 then ck (isK κ1 this 9) (bo (p_Tokens_fail N this 0 κ1) (fun κ3 => some κ3)) else ck (isK κ1 this 9) (bo (p_Tokens_goOn N this κ1) (fun κ5 => some κ5))))
set_option maxHeartbeats 4000000 in
set_option maxRecDepth 100000 in
theorem c_Tokens_takeSign_ok (l : Launch) (D : va_G) (θ : Tc) (N : Nat) (this : Nat) (a1 : Int32) (κ : Cz) (ρ : Cz) (h : p_Tokens_takeSign N this a1 κ = some ρ) : CEv l D θ y_Tokens_takeSign c_Tokens_takeSign 2 none 2 0 0 [.ref this, .int a1] κ ρ := by
  intro sz
  refine e_met l [.ref this, .int a1] (by decide +kernel) (Nat.le_of_ble_eq_true rfl) ?_
  intro p e s m args below meth c K hN hr hlk hnm hs
  generalize va_A (wE θ κ) sz = A at K ⊢
  have K : KE p s m args c c_Tokens_takeSign 2 "ErrataRow$Tokens" y_Tokens_takeSign none D θ A := K
  show JE p l e (rmA 2 0 0) s m args below meth c D θ A 2 0 0 (QEv below args s D θ A 0 0 ρ) κ [(0, .ref this), (1, .int a1)] [] 0
  unfold p_Tokens_takeSign at h
  refine j_aload_n K 0 d_Tokens_takeSign_0 rfl rfl ?_
  refine j_iload_n K 1 d_Tokens_takeSign_1 rfl rfl ?_
  obtain ⟨q2, h⟩ := ck_e h
  obtain ⟨r1, κ1, e1, h⟩ := bd_e h
  refine ecallV_i K hN (c_Tokens_isSign_ok l D θ N this a1 κ _ e1) eG_Tokens_92 eh_Tokens_isSign (by decide) (rmA_ok (by decide) (by decide)) rfl q2 (by decide) rfl (st := []) (Nat.le_of_ble_eq_true rfl) rfl d_Tokens_takeSign_2 ⟨Nat.le_of_ble_eq_true rfl, Nat.le_of_ble_eq_true rfl⟩ ?_
  refine j_if_eq (tgt := 15) K d_Tokens_takeSign_5 (by decide) (fun q => ?_) (fun q => ?_)
  · have h := if_t h q
    refine j_aload_n K 0 d_Tokens_takeSign_15 rfl rfl ?_
    refine j_iconst (v := 0) K d_Tokens_takeSign_16 (by decide) ?_
    obtain ⟨q4, h⟩ := ck_e h
    obtain ⟨κ3, e3, h⟩ := bo_e h
    refine ecallV_v K hN (c_Tokens_fail_ok l D θ N this 0 κ1 _ e3) eG_Tokens_98 eh_Tokens_fail (by decide) (rmA_ok (by decide) (by decide)) rfl q4 (by decide) rfl (st := []) (Nat.le_of_ble_eq_true rfl) rfl d_Tokens_takeSign_17 ⟨Nat.le_of_ble_eq_true rfl, Nat.le_of_ble_eq_true rfl⟩ ?_
    exact eret_v K h hr hlk d_Tokens_takeSign_20
  · have h := if_f h q
    refine j_aload_n K 0 d_Tokens_takeSign_8 rfl rfl ?_
    obtain ⟨q6, h⟩ := ck_e h
    obtain ⟨κ5, e5, h⟩ := bo_e h
    refine ecallV_v K hN (c_Tokens_goOn_ok l D θ N this κ1 _ e5) eG_Tokens_95 eh_Tokens_goOn (by decide) (rmA_ok (by decide) (by decide)) rfl q6 (by decide) rfl (st := []) (Nat.le_of_ble_eq_true rfl) rfl d_Tokens_takeSign_9 ⟨Nat.le_of_ble_eq_true rfl, Nat.le_of_ble_eq_true rfl⟩ ?_
    refine j_goto (tgt := 20) K d_Tokens_takeSign_12 (by decide) ?_
    exact eret_v K h hr hlk d_Tokens_takeSign_20
def p_ErrataRow_feed (N : Nat) (this : Nat) (a1 : Int32) (a2 : Int32) (a3 : Int32) (a4 : Int32) (a5 : Int32) (κ : Cz) : Option (Int32 × Cz) := ck (isK κ this 11) (if (fi κ this 1) + 20 ≤ 400 then bo (p_ErrataRow_putBytes N this a1 κ) (fun κ2 => ck (isK κ2 this 11) (bo (p_ErrataRow_putBytes N this a2 κ2) (fun κ3 => ck (isK κ3 this 11) (bo (p_ErrataRow_putBytes N this a3 κ3) (fun κ5 => ck (isK κ5 this 11) (bo (p_ErrataRow_putBytes N this a4 κ5) (fun κ7 => ck (isK κ7 this 11) (bo (p_ErrataRow_putBytes N this a5 κ7) (fun κ9 => ck (isK κ9 this 11) (some (fi κ9 this 1, κ9))))))))))) else some ((-1), κ))
set_option maxHeartbeats 4000000 in
set_option maxRecDepth 100000 in
theorem c_ErrataRow_feed_ok (l : Launch) (D : va_G) (θ : Tc) (N : Nat) (this : Nat) (a1 : Int32) (a2 : Int32) (a3 : Int32) (a4 : Int32) (a5 : Int32) (κ : Cz) (ρ : Int32 × Cz) (h : p_ErrataRow_feed N this a1 a2 a3 a4 a5 κ = some ρ) : CEi l D θ y_ErrataRow_feed c_ErrataRow_feed 6 (some .int) 2 0 0 [.ref this, .int a1, .int a2, .int a3, .int a4, .int a5] κ ρ := by
  intro sz
  refine e_met l [.ref this, .int a1, .int a2, .int a3, .int a4, .int a5] (by decide +kernel) (Nat.le_of_ble_eq_true rfl) ?_
  intro p e s m args below meth c K hN hr hlk hnm hs
  generalize va_A (wE θ κ) sz = A at K ⊢
  have K : KE p s m args c c_ErrataRow_feed 6 "ErrataRow" y_ErrataRow_feed (some .int) D θ A := K
  show JE p l e (rmA 2 0 0) s m args below meth c D θ A 6 0 0 (QEi below args s D θ A 0 0 ρ) κ [(0, .ref this), (1, .int a1), (2, .int a2), (3, .int a3), (4, .int a4), (5, .int a5)] [] 0
  unfold p_ErrataRow_feed at h
  refine j_aload_n K 0 d_ErrataRow_feed_0 rfl rfl ?_
  obtain ⟨q1, h⟩ := ck_e h
  refine eg_ErrataRow_tapeLength K ef_ErrataRow_98 q1 d_ErrataRow_feed_1 ?_
  refine j_bipush (v := 20) K d_ErrataRow_feed_4 (by decide) ?_
  refine j_iadd K d_ErrataRow_feed_6 ?_
  refine j_sipush (v := 400) K d_ErrataRow_feed_7 (by decide) ?_
  refine j_icmp_le (tgt := 15) K d_ErrataRow_feed_10 (by decide) (fun q => ?_) (fun q => ?_)
  · have h := if_t h q
    refine j_aload_n K 0 d_ErrataRow_feed_15 rfl rfl ?_
    refine j_iload_n K 1 d_ErrataRow_feed_16 rfl rfl ?_
    obtain ⟨κ2, e2, h⟩ := bo_e h
    refine ecallV_v K hN (c_ErrataRow_putBytes_ok l D θ N this a1 κ _ e2) eG_ErrataRow_102 eh_ErrataRow_putBytes (by decide) (rmA_ok (by decide) (by decide)) rfl q1 (by decide) rfl (st := []) (Nat.le_of_ble_eq_true rfl) rfl d_ErrataRow_feed_17 ⟨Nat.le_of_ble_eq_true rfl, Nat.le_of_ble_eq_true rfl⟩ ?_
    refine j_aload_n K 0 d_ErrataRow_feed_20 rfl rfl ?_
    refine j_iload_n K 2 d_ErrataRow_feed_21 rfl rfl ?_
    obtain ⟨q4, h⟩ := ck_e h
    obtain ⟨κ3, e3, h⟩ := bo_e h
    refine ecallV_v K hN (c_ErrataRow_putBytes_ok l D θ N this a2 κ2 _ e3) eG_ErrataRow_102 eh_ErrataRow_putBytes (by decide) (rmA_ok (by decide) (by decide)) rfl q4 (by decide) rfl (st := []) (Nat.le_of_ble_eq_true rfl) rfl d_ErrataRow_feed_22 ⟨Nat.le_of_ble_eq_true rfl, Nat.le_of_ble_eq_true rfl⟩ ?_
    refine j_aload_n K 0 d_ErrataRow_feed_25 rfl rfl ?_
    refine j_iload_n K 3 d_ErrataRow_feed_26 rfl rfl ?_
    obtain ⟨q6, h⟩ := ck_e h
    obtain ⟨κ5, e5, h⟩ := bo_e h
    refine ecallV_v K hN (c_ErrataRow_putBytes_ok l D θ N this a3 κ3 _ e5) eG_ErrataRow_102 eh_ErrataRow_putBytes (by decide) (rmA_ok (by decide) (by decide)) rfl q6 (by decide) rfl (st := []) (Nat.le_of_ble_eq_true rfl) rfl d_ErrataRow_feed_27 ⟨Nat.le_of_ble_eq_true rfl, Nat.le_of_ble_eq_true rfl⟩ ?_
    refine j_aload_n K 0 d_ErrataRow_feed_30 rfl rfl ?_
    refine j_iload K 4 d_ErrataRow_feed_31 rfl ?_
    obtain ⟨q8, h⟩ := ck_e h
    obtain ⟨κ7, e7, h⟩ := bo_e h
    refine ecallV_v K hN (c_ErrataRow_putBytes_ok l D θ N this a4 κ5 _ e7) eG_ErrataRow_102 eh_ErrataRow_putBytes (by decide) (rmA_ok (by decide) (by decide)) rfl q8 (by decide) rfl (st := []) (Nat.le_of_ble_eq_true rfl) rfl d_ErrataRow_feed_33 ⟨Nat.le_of_ble_eq_true rfl, Nat.le_of_ble_eq_true rfl⟩ ?_
    refine j_aload_n K 0 d_ErrataRow_feed_36 rfl rfl ?_
    refine j_iload K 5 d_ErrataRow_feed_37 rfl ?_
    obtain ⟨q10, h⟩ := ck_e h
    obtain ⟨κ9, e9, h⟩ := bo_e h
    refine ecallV_v K hN (c_ErrataRow_putBytes_ok l D θ N this a5 κ7 _ e9) eG_ErrataRow_102 eh_ErrataRow_putBytes (by decide) (rmA_ok (by decide) (by decide)) rfl q10 (by decide) rfl (st := []) (Nat.le_of_ble_eq_true rfl) rfl d_ErrataRow_feed_39 ⟨Nat.le_of_ble_eq_true rfl, Nat.le_of_ble_eq_true rfl⟩ ?_
    refine j_aload_n K 0 d_ErrataRow_feed_42 rfl rfl ?_
    obtain ⟨q11, h⟩ := ck_e h
    refine eg_ErrataRow_tapeLength K ef_ErrataRow_98 q11 d_ErrataRow_feed_43 ?_
    exact eret_i K h hr hlk d_ErrataRow_feed_46
  · have h := if_f h q
    refine j_iconst (v := (-1)) K d_ErrataRow_feed_13 (by decide) ?_
    exact eret_i K h hr hlk d_ErrataRow_feed_14
def p_ErrataRow_letter (N : Nat) (this : Nat) (a1 : Int32) (a2 : Int32) (κ : Cz) : Option (Int32 × Cz) := ck (isK κ this 11) (bd (p_ErrataRow_isLetter N this a1 κ) (fun r1 κ1 => if r1 = 0 then some ((-1), κ1) else if a2.toInt < 0 ∨ 3 < a2.toInt then some ((-1), κ1) else if a2 = 0 then ck (isK κ1 this 11) (bo (fr κ1 this 7) (fun o4 => ck (isK κ1 o4 10) (bo (fr κ1 o4 1) (fun o6 => ck (isK κ1 o6 8) (bo (fr κ1 o6 0) (fun o8 => ck (isK κ1 o8 20) (ck (inb a1 (ln κ1 o8)) (some (ai κ1 o8 a1.toNatClampNeg, κ1))))))))) else if a2 = 1 then ck (isK κ1 this 11) (bo (fr κ1 this 7) (fun o12 => ck (isK κ1 o12 10) (bo (fr κ1 o12 0) (fun o14 => ck (isK κ1 o14 0) (bo (fr κ1 o14 4) (fun o16 => ck (isK κ1 o16 20) (ck (inb a1 (ln κ1 o16)) (some (ai κ1 o16 a1.toNatClampNeg, κ1))))))))) else if a2 = 2 then ck (isK κ1 this 11) (bo (fr κ1 this 7) (fun o20 => ck (isK κ1 o20 10) (bo (fr κ1 o20 1) (fun o22 => ck (isK κ1 o22 8) (bo (fr κ1 o22 1) (fun o24 => ck (isK κ1 o24 20) (ck (inb a1 (ln κ1 o24)) (some (ai κ1 o24 a1.toNatClampNeg, κ1))))))))) else if a2 = 3 then ck (isK κ1 this 11) (bo (fr κ1 this 7) (fun o28 => ck (isK κ1 o28 10) (bo (fr κ1 o28 1) (fun o30 => ck (isK κ1 o30 8) (bo (fr κ1 o30 2) (fun o32 => ck (isK κ1 o32 20) (ck (inb a1 (ln κ1 o32)) (some (ai κ1 o32 a1.toNatClampNeg, κ1))))))))) else none))
set_option maxHeartbeats 4000000 in
set_option maxRecDepth 100000 in
theorem c_ErrataRow_letter_ok (l : Launch) (D : va_G) (θ : Tc) (N : Nat) (this : Nat) (a1 : Int32) (a2 : Int32) (κ : Cz) (ρ : Int32 × Cz) (h : p_ErrataRow_letter N this a1 a2 κ = some ρ) : CEi l D θ y_ErrataRow_letter c_ErrataRow_letter 3 (some .int) 2 0 0 [.ref this, .int a1, .int a2] κ ρ := by
  intro sz
  refine e_met l [.ref this, .int a1, .int a2] (by decide +kernel) (Nat.le_of_ble_eq_true rfl) ?_
  intro p e s m args below meth c K hN hr hlk hnm hs
  generalize va_A (wE θ κ) sz = A at K ⊢
  have K : KE p s m args c c_ErrataRow_letter 3 "ErrataRow" y_ErrataRow_letter (some .int) D θ A := K
  show JE p l e (rmA 2 0 0) s m args below meth c D θ A 3 0 0 (QEi below args s D θ A 0 0 ρ) κ [(0, .ref this), (1, .int a1), (2, .int a2)] [] 0
  unfold p_ErrataRow_letter at h
  refine j_aload_n K 0 d_ErrataRow_letter_0 rfl rfl ?_
  refine j_iload_n K 1 d_ErrataRow_letter_1 rfl rfl ?_
  obtain ⟨q2, h⟩ := ck_e h
  obtain ⟨r1, κ1, e1, h⟩ := bd_e h
  refine ecallV_i K hN (c_ErrataRow_isLetter_ok l D θ N this a1 κ _ e1) eG_ErrataRow_141 eh_ErrataRow_isLetter (by decide) (rmA_ok (by decide) (by decide)) rfl q2 (by decide) rfl (st := []) (Nat.le_of_ble_eq_true rfl) rfl d_ErrataRow_letter_2 ⟨Nat.le_of_ble_eq_true rfl, Nat.le_of_ble_eq_true rfl⟩ ?_
  refine j_if_ne (tgt := 10) K d_ErrataRow_letter_5 (by decide) (fun q => ?_) (fun q => ?_)
  · have h := if_f h q
    refine j_iload_n K 2 d_ErrataRow_letter_10 rfl rfl ?_
    by_cases q : a2.toInt < 0 ∨ 3 < a2.toInt
    · have h := if_t h q
      refine j_tabOut (tgt := 92) K d_ErrataRow_letter_11 q (by decide) ?_
      refine j_iconst (v := (-1)) K d_ErrataRow_letter_92 (by decide) ?_
      exact eret_i K h hr hlk d_ErrataRow_letter_93
    · have h := if_f h q
      by_cases q : a2 = 0
      · have h := if_t h q
        have q1 : a2.toInt = 0 := by rw [q]; decide
        refine j_tabIn (tgt := 40) K d_ErrataRow_letter_11 (by rw [q1]; decide) (by rw [q1]; decide) (by rw [q1]; rfl) (by decide) ?_
        refine j_aload_n K 0 d_ErrataRow_letter_40 rfl rfl ?_
        obtain ⟨q3, h⟩ := ck_e h
        refine eg_ErrataRow_world K ef_ErrataRow_45 q3 d_ErrataRow_letter_41 ?_
        obtain ⟨o4, e4, h⟩ := bo_e h
        refine j_eqq e4 ?_
        obtain ⟨q5, h⟩ := ck_e h
        refine eg_World_now K ef_ErrataRow_145 q5 d_ErrataRow_letter_44 ?_
        obtain ⟨o6, e6, h⟩ := bo_e h
        refine j_eqq e6 ?_
        obtain ⟨q7, h⟩ := ck_e h
        refine eg_State_put K ef_ErrataRow_148 q7 d_ErrataRow_letter_47 ?_
        obtain ⟨o8, e8, h⟩ := bo_e h
        refine j_eqq e8 ?_
        refine j_iload_n K 1 d_ErrataRow_letter_50 rfl rfl ?_
        obtain ⟨q9, h⟩ := ck_e h
        obtain ⟨q10, h⟩ := ck_e h
        refine e_iald K q9 (inb_e q10) d_ErrataRow_letter_51 ?_
        exact eret_i K h hr hlk d_ErrataRow_letter_52
      have h := if_f h q
      by_cases q : a2 = 1
      · have h := if_t h q
        have q1 : a2.toInt = 1 := by rw [q]; decide
        refine j_tabIn (tgt := 53) K d_ErrataRow_letter_11 (by rw [q1]; decide) (by rw [q1]; decide) (by rw [q1]; rfl) (by decide) ?_
        refine j_aload_n K 0 d_ErrataRow_letter_53 rfl rfl ?_
        obtain ⟨q11, h⟩ := ck_e h
        refine eg_ErrataRow_world K ef_ErrataRow_45 q11 d_ErrataRow_letter_54 ?_
        obtain ⟨o12, e12, h⟩ := bo_e h
        refine j_eqq e12 ?_
        obtain ⟨q13, h⟩ := ck_e h
        refine eg_World_book K ef_ErrataRow_62 q13 d_ErrataRow_letter_57 ?_
        obtain ⟨o14, e14, h⟩ := bo_e h
        refine j_eqq e14 ?_
        obtain ⟨q15, h⟩ := ck_e h
        refine eg_Book_meant K ef_ErrataRow_151 q15 d_ErrataRow_letter_60 ?_
        obtain ⟨o16, e16, h⟩ := bo_e h
        refine j_eqq e16 ?_
        refine j_iload_n K 1 d_ErrataRow_letter_63 rfl rfl ?_
        obtain ⟨q17, h⟩ := ck_e h
        obtain ⟨q18, h⟩ := ck_e h
        refine e_iald K q17 (inb_e q18) d_ErrataRow_letter_64 ?_
        exact eret_i K h hr hlk d_ErrataRow_letter_65
      have h := if_f h q
      by_cases q : a2 = 2
      · have h := if_t h q
        have q1 : a2.toInt = 2 := by rw [q]; decide
        refine j_tabIn (tgt := 66) K d_ErrataRow_letter_11 (by rw [q1]; decide) (by rw [q1]; decide) (by rw [q1]; rfl) (by decide) ?_
        refine j_aload_n K 0 d_ErrataRow_letter_66 rfl rfl ?_
        obtain ⟨q19, h⟩ := ck_e h
        refine eg_ErrataRow_world K ef_ErrataRow_45 q19 d_ErrataRow_letter_67 ?_
        obtain ⟨o20, e20, h⟩ := bo_e h
        refine j_eqq e20 ?_
        obtain ⟨q21, h⟩ := ck_e h
        refine eg_World_now K ef_ErrataRow_145 q21 d_ErrataRow_letter_70 ?_
        obtain ⟨o22, e22, h⟩ := bo_e h
        refine j_eqq e22 ?_
        obtain ⟨q23, h⟩ := ck_e h
        refine eg_State_paid K ef_ErrataRow_154 q23 d_ErrataRow_letter_73 ?_
        obtain ⟨o24, e24, h⟩ := bo_e h
        refine j_eqq e24 ?_
        refine j_iload_n K 1 d_ErrataRow_letter_76 rfl rfl ?_
        obtain ⟨q25, h⟩ := ck_e h
        obtain ⟨q26, h⟩ := ck_e h
        refine e_iald K q25 (inb_e q26) d_ErrataRow_letter_77 ?_
        exact eret_i K h hr hlk d_ErrataRow_letter_78
      have h := if_f h q
      by_cases q : a2 = 3
      · have h := if_t h q
        have q1 : a2.toInt = 3 := by rw [q]; decide
        refine j_tabIn (tgt := 79) K d_ErrataRow_letter_11 (by rw [q1]; decide) (by rw [q1]; decide) (by rw [q1]; rfl) (by decide) ?_
        refine j_aload_n K 0 d_ErrataRow_letter_79 rfl rfl ?_
        obtain ⟨q27, h⟩ := ck_e h
        refine eg_ErrataRow_world K ef_ErrataRow_45 q27 d_ErrataRow_letter_80 ?_
        obtain ⟨o28, e28, h⟩ := bo_e h
        refine j_eqq e28 ?_
        obtain ⟨q29, h⟩ := ck_e h
        refine eg_World_now K ef_ErrataRow_145 q29 d_ErrataRow_letter_83 ?_
        obtain ⟨o30, e30, h⟩ := bo_e h
        refine j_eqq e30 ?_
        obtain ⟨q31, h⟩ := ck_e h
        refine eg_State_hangs K ef_ErrataRow_157 q31 d_ErrataRow_letter_86 ?_
        obtain ⟨o32, e32, h⟩ := bo_e h
        refine j_eqq e32 ?_
        refine j_iload_n K 1 d_ErrataRow_letter_89 rfl rfl ?_
        obtain ⟨q33, h⟩ := ck_e h
        obtain ⟨q34, h⟩ := ck_e h
        refine e_iald K q33 (inb_e q34) d_ErrataRow_letter_90 ?_
        exact eret_i K h hr hlk d_ErrataRow_letter_91
      have h := if_f h q
      exact absurd h (by simp)
  · have h := if_t h q
    refine j_iconst (v := (-1)) K d_ErrataRow_letter_8 (by decide) ?_
    exact eret_i K h hr hlk d_ErrataRow_letter_9
