def p_ErrataRow_habit (N : Nat) (this : Nat) (a1 : Int32) (a2 : Int32) (κ : Cz) : Option (Int32 × Cz) := ck (isK κ this 11) (bo (fr κ this 7) (fun o2 => ck (isK κ o2 10) (bo (fr κ o2 0) (fun o4 => ck (isK κ o4 0) (if (fi κ o4 0) = 0 then some ((-1), κ) else bd (p_Book_editionsRound N o4 κ) (fun r6 κ6 => bd (p_ErrataRow_within N a1 0 (r6 - 1) κ6) (fun r7 κ7 => if r7 = 0 then some ((-1), κ7) else bd (p_ErrataRow_within N a2 0 1 κ7) (fun r8 κ8 => if r8 = 0 then some ((-1), κ8) else if a2 = 0 then ck (isK κ8 o4 0) (bo (fr κ8 o4 5) (fun o14 => ck (isK κ8 o14 20) (ck (inb a1 (ln κ8 o14)) (some (ai κ8 o14 a1.toNatClampNeg, κ8))))) else ck (isK κ8 o4 0) (bo (fr κ8 o4 6) (fun o10 => ck (isK κ8 o10 20) (ck (inb a1 (ln κ8 o10)) (some (ai κ8 o10 a1.toNatClampNeg, κ8)))))))))))))
set_option maxHeartbeats 4000000 in
set_option maxRecDepth 100000 in
theorem c_ErrataRow_habit_ok (l : Launch) (D : va_G) (θ : Tc) (N : Nat) (this : Nat) (a1 : Int32) (a2 : Int32) (κ : Cz) (ρ : Int32 × Cz) (h : p_ErrataRow_habit N this a1 a2 κ = some ρ) : CEi l D θ y_ErrataRow_habit c_ErrataRow_habit 4 (some .int) 2 0 0 [.ref this, .int a1, .int a2] κ ρ := by
  intro sz
  refine e_met l [.ref this, .int a1, .int a2] (by decide +kernel) (Nat.le_of_ble_eq_true rfl) ?_
  intro p e s m args below meth c K hN hr hlk hnm hs
  generalize va_A (wE θ κ) sz = A at K ⊢
  have K : KE p s m args c c_ErrataRow_habit 4 "ErrataRow" y_ErrataRow_habit (some .int) D θ A := K
  show JE p l e (rmA 2 0 0) s m args below meth c D θ A 4 0 0 (QEi below args s D θ A 0 0 ρ) κ [(0, .ref this), (1, .int a1), (2, .int a2)] [] 0
  unfold p_ErrataRow_habit at h
  refine j_aload_n K 0 d_ErrataRow_habit_0 rfl rfl ?_
  obtain ⟨q1, h⟩ := ck_e h
  refine eg_ErrataRow_world K ef_ErrataRow_45 q1 d_ErrataRow_habit_1 ?_
  obtain ⟨o2, e2, h⟩ := bo_e h
  refine j_eqq e2 ?_
  obtain ⟨q3, h⟩ := ck_e h
  refine eg_World_book K ef_ErrataRow_62 q3 d_ErrataRow_habit_4 ?_
  obtain ⟨o4, e4, h⟩ := bo_e h
  refine j_eqq e4 ?_
  refine j_astore_n (lv' := [(3, .ref o4), (0, .ref this), (1, .int a1), (2, .int a2)]) K d_ErrataRow_habit_7 rfl (by decide) rfl ?_
  refine j_aload_n K 0 d_ErrataRow_habit_8 rfl rfl ?_
  obtain ⟨q5, h⟩ := ck_e h
  refine eg_Book_told K ef_ErrataRow_160 q5 d_ErrataRow_habit_9 ?_
  refine j_if_eq (tgt := 38) K d_ErrataRow_habit_12 (by decide) (fun q => ?_) (fun q => ?_)
  · have h := if_t h q
    refine j_iconst (v := (-1)) K d_ErrataRow_habit_38 (by decide) ?_
    exact eret_i K h hr hlk d_ErrataRow_habit_39
  · have h := if_f h q
    refine j_iload_n K 2 d_ErrataRow_habit_15 rfl rfl ?_
    refine j_iconst (v := 0) K d_ErrataRow_habit_16 (by decide) ?_
    refine j_aload_n K 0 d_ErrataRow_habit_17 rfl rfl ?_
    obtain ⟨r6, κ6, e6, h⟩ := bd_e h
    refine ecallV_i K hN (c_Book_editionsRound_ok l D θ N o4 κ _ e6) eG_ErrataRow_163 eh_Book_editionsRound (by decide) (rmA_ok (by decide) (by decide)) rfl q5 (by decide) rfl (st := [.int 0, .int a1]) (Nat.le_of_ble_eq_true rfl) rfl d_ErrataRow_habit_18 ⟨Nat.le_of_ble_eq_true rfl, Nat.le_of_ble_eq_true rfl⟩ ?_
    refine j_iconst (v := 1) K d_ErrataRow_habit_21 (by decide) ?_
    refine j_isub K d_ErrataRow_habit_22 ?_
    obtain ⟨r7, κ7, e7, h⟩ := bd_e h
    refine ecallS_i K hN (c_ErrataRow_within_ok l D θ N a1 0 (r6 - 1) κ6 _ e7) eG_ErrataRow_166 eh_ErrataRow_within (by decide) (rmA_ok (by decide) (by decide)) rfl (st := []) (Nat.le_of_ble_eq_true rfl) rfl d_ErrataRow_habit_23 ⟨Nat.le_of_ble_eq_true rfl, Nat.le_of_ble_eq_true rfl⟩ ?_
    refine j_if_eq (tgt := 38) K d_ErrataRow_habit_26 (by decide) (fun q => ?_) (fun q => ?_)
    · have h := if_t h q
      refine j_iconst (v := (-1)) K d_ErrataRow_habit_38 (by decide) ?_
      exact eret_i K h hr hlk d_ErrataRow_habit_39
    · have h := if_f h q
      refine j_iload_n K 3 d_ErrataRow_habit_29 rfl rfl ?_
      refine j_iconst (v := 0) K d_ErrataRow_habit_30 (by decide) ?_
      refine j_iconst (v := 1) K d_ErrataRow_habit_31 (by decide) ?_
      obtain ⟨r8, κ8, e8, h⟩ := bd_e h
      refine ecallS_i K hN (c_ErrataRow_within_ok l D θ N a2 0 1 κ7 _ e8) eG_ErrataRow_166 eh_ErrataRow_within (by decide) (rmA_ok (by decide) (by decide)) rfl (st := []) (Nat.le_of_ble_eq_true rfl) rfl d_ErrataRow_habit_32 ⟨Nat.le_of_ble_eq_true rfl, Nat.le_of_ble_eq_true rfl⟩ ?_
      refine j_if_ne (tgt := 40) K d_ErrataRow_habit_35 (by decide) (fun q => ?_) (fun q => ?_)
      · have h := if_f h q
        refine j_iload_n K 3 d_ErrataRow_habit_40 rfl rfl ?_
        refine j_if_ne (tgt := 53) K d_ErrataRow_habit_41 (by decide) (fun q => ?_) (fun q => ?_)
        · have h := if_f h q
          refine j_aload_n K 0 d_ErrataRow_habit_53 rfl rfl ?_
          obtain ⟨q9, h⟩ := ck_e h
          refine eg_Book_to K ef_ErrataRow_173 q9 d_ErrataRow_habit_54 ?_
          obtain ⟨o10, e10, h⟩ := bo_e h
          refine j_eqq e10 ?_
          refine j_iload_n K 2 d_ErrataRow_habit_57 rfl rfl ?_
          obtain ⟨q11, h⟩ := ck_e h
          obtain ⟨q12, h⟩ := ck_e h
          refine e_iald K q11 (inb_e q12) d_ErrataRow_habit_58 ?_
          exact eret_i K h hr hlk d_ErrataRow_habit_59
        · have h := if_t h q
          refine j_aload_n K 0 d_ErrataRow_habit_44 rfl rfl ?_
          obtain ⟨q13, h⟩ := ck_e h
          refine eg_Book_from K ef_ErrataRow_170 q13 d_ErrataRow_habit_45 ?_
          obtain ⟨o14, e14, h⟩ := bo_e h
          refine j_eqq e14 ?_
          refine j_iload_n K 2 d_ErrataRow_habit_48 rfl rfl ?_
          obtain ⟨q15, h⟩ := ck_e h
          obtain ⟨q16, h⟩ := ck_e h
          refine e_iald K q15 (inb_e q16) d_ErrataRow_habit_49 ?_
          refine j_goto (tgt := 59) K d_ErrataRow_habit_50 (by decide) ?_
          exact eret_i K h hr hlk d_ErrataRow_habit_59
      · have h := if_t h q
        refine j_iconst (v := (-1)) K d_ErrataRow_habit_38 (by decide) ?_
        exact eret_i K h hr hlk d_ErrataRow_habit_39
def p_ErrataRow_readyPress (N : Nat) (this : Nat) (a1 : Int32) (κ : Cz) : Option (Cz) := ck (isK κ this 11) (bo (fr κ this 10) (fun o2 => bd (p_ErrataRow_ruleOf N this a1 κ) (fun r3 κ3 => ck (isK κ3 o2 4) (lt (sfr o2 2 r3 κ3) (fun κ5 => ck (isK κ5 this 11) (bo (fr κ5 this 10) (fun o7 => ck (isK κ5 o7 4) (lt (sfi o7 3 (-1) κ5) (fun κ9 => some κ9)))))))))
set_option maxHeartbeats 4000000 in
set_option maxRecDepth 100000 in
theorem c_ErrataRow_readyPress_ok (l : Launch) (D : va_G) (θ : Tc) (N : Nat) (this : Nat) (a1 : Int32) (κ : Cz) (ρ : Cz) (h : p_ErrataRow_readyPress N this a1 κ = some ρ) : CEv l D θ y_ErrataRow_readyPress c_ErrataRow_readyPress 2 none 2 0 0 [.ref this, .int a1] κ ρ := by
  intro sz
  refine e_met l [.ref this, .int a1] (by decide +kernel) (Nat.le_of_ble_eq_true rfl) ?_
  intro p e s m args below meth c K hN hr hlk hnm hs
  generalize va_A (wE θ κ) sz = A at K ⊢
  have K : KE p s m args c c_ErrataRow_readyPress 2 "ErrataRow" y_ErrataRow_readyPress none D θ A := K
  show JE p l e (rmA 2 0 0) s m args below meth c D θ A 2 0 0 (QEv below args s D θ A 0 0 ρ) κ [(0, .ref this), (1, .int a1)] [] 0
  unfold p_ErrataRow_readyPress at h
  refine j_aload_n K 0 d_ErrataRow_readyPress_0 rfl rfl ?_
  obtain ⟨q1, h⟩ := ck_e h
  refine eg_ErrataRow_press K ef_ErrataRow_69 q1 d_ErrataRow_readyPress_1 ?_
  obtain ⟨o2, e2, h⟩ := bo_e h
  refine j_eqq e2 ?_
  refine j_aload_n K 0 d_ErrataRow_readyPress_4 rfl rfl ?_
  refine j_iload_n K 1 d_ErrataRow_readyPress_5 rfl rfl ?_
  obtain ⟨r3, κ3, e3, h⟩ := bd_e h
  refine ecallV_q K hN (c_ErrataRow_ruleOf_ok l D θ N this a1 κ _ e3) eG_ErrataRow_238 eh_ErrataRow_ruleOf (by decide) (rmA_ok (by decide) (by decide)) rfl q1 (by decide) rfl (st := [.ref o2]) (Nat.le_of_ble_eq_true rfl) rfl d_ErrataRow_readyPress_6 ⟨Nat.le_of_ble_eq_true rfl, Nat.le_of_ble_eq_true rfl⟩ ?_
  obtain ⟨q4, h⟩ := ck_e h
  obtain ⟨κ5, e5, h⟩ := lt_e h
  refine ep_Press_rule K (v := r3) rfl ef_ErrataRow_242 q4 d_ErrataRow_readyPress_9 e5 ?_
  refine j_aload_n K 0 d_ErrataRow_readyPress_12 rfl rfl ?_
  obtain ⟨q6, h⟩ := ck_e h
  refine eg_ErrataRow_press K ef_ErrataRow_69 q6 d_ErrataRow_readyPress_13 ?_
  obtain ⟨o7, e7, h⟩ := bo_e h
  refine j_eqq e7 ?_
  refine j_iconst (v := (-1)) K d_ErrataRow_readyPress_16 (by decide) ?_
  obtain ⟨q8, h⟩ := ck_e h
  obtain ⟨κ9, e9, h⟩ := lt_e h
  refine ep_Press_leftOff K ef_ErrataRow_246 q8 d_ErrataRow_readyPress_17 e9 ?_
  exact eret_v K h hr hlk d_ErrataRow_readyPress_20
def b_ErrataRow_hungOver_31 (N : Nat) (k21 : Nat → Int32 → Nat → Int32 → Int32 → Cz → Option (Int32 × Cz)) : Nat → Nat → Int32 → Nat → Int32 → Int32 → Int32 → Cz → Option (Int32 × Cz)
  | 0, _, _, _, _, _, _, _ => none
  | n + 1, x0, x2, x3, x4, x5, x6, κ => ck (isK κ x0 11) (bo (fr κ x0 7) (fun o11 => ck (isK κ o11 10) (bo (fr κ o11 0) (fun o13 => ck (isK κ o13 0) (if (fi κ o13 2) ≤ x6 then lt (x5 + 1) (fun v15 => k21 x0 x2 x3 x4 v15 κ) else bd (p_ErrataRow_hasBit N x4 x6 κ) (fun r16 κ16 => if r16 = 0 then lt (x6 + 1) (fun v17 => b_ErrataRow_hungOver_31 N k21 n x0 x2 x3 x4 x5 v17 κ16) else ck (isK κ16 x3 20) (ck (inb x6 (ln κ16 x3)) (lt (x4 ||| ((ai κ16 x3 x6.toNatClampNeg) &&& x2)) (fun v20 => lt (x6 + 1) (fun v21 => b_ErrataRow_hungOver_31 N k21 n x0 x2 x3 v20 x5 v21 κ16))))))))))
set_option maxHeartbeats 4000000 in
set_option maxRecDepth 100000 in
theorem t_ErrataRow_hungOver_31 {p : Program} {l : Launch} {e : Env} {s : State} {m : MethodId} {args : Array Value} {below : List Frame} {meth : Method} {c : Code} {D : va_G} {θ : Tc} {A : Nat → Prop} (K : KE p s m args c c_ErrataRow_hungOver 7 "ErrataRow" y_ErrataRow_hungOver (some .int) D θ A) (hN : NX s) (hr : meth.sig.returnType = (some .int)) (hlk : meth.locks = false) (N : Nat) (ρ : Int32 × Cz) (k21 : Nat → Int32 → Nat → Int32 → Int32 → Cz → Option (Int32 × Cz)) (hk21 : ∀ (x0 : Nat) (x2 : Int32) (x3 : Nat) (x4 : Int32) (x5 : Int32) (κ : Cz), k21 x0 x2 x3 x4 x5 κ = some ρ → JE p l e (rmA 2 0 0) s m args below meth c D θ A 7 0 0 (QEi below args s D θ A 0 0 ρ) κ [(0, .ref x0), (2, .int x2), (3, .ref x3), (4, .int x4), (5, .int x5)] [] 21) : ∀ (n : Nat) (x0 : Nat) (x2 : Int32) (x3 : Nat) (x4 : Int32) (x5 : Int32) (x6 : Int32) (κ : Cz), b_ErrataRow_hungOver_31 N k21 n x0 x2 x3 x4 x5 x6 κ = some ρ → JE p l e (rmA 2 0 0) s m args below meth c D θ A 7 0 0 (QEi below args s D θ A 0 0 ρ) κ [(0, .ref x0), (2, .int x2), (3, .ref x3), (4, .int x4), (5, .int x5), (6, .int x6)] [] 31 := by
  intro n
  induction n with
  | zero =>
    intro x0 x2 x3 x4 x5 x6 κ h
    exact absurd h (by simp [b_ErrataRow_hungOver_31])
  | succ n ih =>
    intro x0 x2 x3 x4 x5 x6 κ h
    rw [b_ErrataRow_hungOver_31] at h
    refine j_iload K 5 d_ErrataRow_hungOver_31 rfl ?_
    refine j_aload_n K 0 d_ErrataRow_hungOver_33 rfl rfl ?_
    obtain ⟨q10, h⟩ := ck_e h
    refine eg_ErrataRow_world K ef_ErrataRow_45 q10 d_ErrataRow_hungOver_34 ?_
    obtain ⟨o11, e11, h⟩ := bo_e h
    refine j_eqq e11 ?_
    obtain ⟨q12, h⟩ := ck_e h
    refine eg_World_book K ef_ErrataRow_62 q12 d_ErrataRow_hungOver_37 ?_
    obtain ⟨o13, e13, h⟩ := bo_e h
    refine j_eqq e13 ?_
    obtain ⟨q14, h⟩ := ck_e h
    refine eg_Book_letters K ef_ErrataRow_123 q14 d_ErrataRow_hungOver_40 ?_
    refine j_icmp_ge (tgt := 73) K d_ErrataRow_hungOver_43 (by decide) (fun q => ?_) (fun q => ?_)
    · have h := if_t h q
      obtain ⟨v15, e15, h⟩ := lt_e h
      refine j_iinc (k := 4) (v := v15) (lv' := [(5, .int v15), (0, .ref x0), (2, .int x2), (3, .ref x3), (4, .int x4), (6, .int x6)]) K d_ErrataRow_hungOver_73 rfl (by rw [e15]; rfl) (by decide) rfl ?_
      refine j_goto (tgt := 21) K d_ErrataRow_hungOver_76 (by decide) ?_
      refine j_sub [1, 2, 3, 4, 0] rfl ?_
      exact hk21 x0 x2 x3 x4 v15 κ h
    · have h := if_f h q
      refine j_iload K 3 d_ErrataRow_hungOver_46 rfl ?_
      refine j_iload K 5 d_ErrataRow_hungOver_48 rfl ?_
      obtain ⟨r16, κ16, e16, h⟩ := bd_e h
      refine ecallS_i K hN (c_ErrataRow_hasBit_ok l D θ N x4 x6 κ _ e16) eG_ErrataRow_221 eh_ErrataRow_hasBit (by decide) (rmA_ok (by decide) (by decide)) rfl (st := []) (Nat.le_of_ble_eq_true rfl) rfl d_ErrataRow_hungOver_50 ⟨Nat.le_of_ble_eq_true rfl, Nat.le_of_ble_eq_true rfl⟩ ?_
      refine j_if_eq (tgt := 67) K d_ErrataRow_hungOver_53 (by decide) (fun q => ?_) (fun q => ?_)
      · have h := if_t h q
        obtain ⟨v17, e17, h⟩ := lt_e h
        refine j_iinc (k := 5) (v := v17) (lv' := [(6, .int v17), (0, .ref x0), (2, .int x2), (3, .ref x3), (4, .int x4), (5, .int x5)]) K d_ErrataRow_hungOver_67 rfl (by rw [e17]; rfl) (by decide) rfl ?_
        refine j_goto (tgt := 31) K d_ErrataRow_hungOver_70 (by decide) ?_
        refine j_sub [1, 2, 3, 4, 5, 0] rfl ?_
        exact ih x0 x2 x3 x4 x5 v17 κ16 h
      · have h := if_f h q
        refine j_iload K 3 d_ErrataRow_hungOver_56 rfl ?_
        refine j_aload_n K 2 d_ErrataRow_hungOver_58 rfl rfl ?_
        refine j_iload K 5 d_ErrataRow_hungOver_59 rfl ?_
        obtain ⟨q18, h⟩ := ck_e h
        obtain ⟨q19, h⟩ := ck_e h
        refine e_iald K q18 (inb_e q19) d_ErrataRow_hungOver_61 ?_
        refine j_iload_n K 1 d_ErrataRow_hungOver_62 rfl rfl ?_
        refine j_iand K d_ErrataRow_hungOver_63 ?_
        refine j_ior K d_ErrataRow_hungOver_64 ?_
        obtain ⟨v20, e20, h⟩ := lt_e h
        refine j_eqi e20 ?_
        refine j_istore (lv' := [(4, .int v20), (0, .ref x0), (2, .int x2), (3, .ref x3), (5, .int x5), (6, .int x6)]) K d_ErrataRow_hungOver_65 (by decide) rfl ?_
        obtain ⟨v21, e21, h⟩ := lt_e h
        refine j_iinc (k := 5) (v := v21) (lv' := [(6, .int v21), (4, .int v20), (0, .ref x0), (2, .int x2), (3, .ref x3), (5, .int x5)]) K d_ErrataRow_hungOver_67 rfl (by rw [e21]; rfl) (by decide) rfl ?_
        refine j_goto (tgt := 31) K d_ErrataRow_hungOver_70 (by decide) ?_
        refine j_sub [2, 3, 4, 1, 5, 0] rfl ?_
        exact ih x0 x2 x3 v20 x5 v21 κ16 h
def b_ErrataRow_hungOver_21 (N : Nat) : Nat → Nat → Int32 → Nat → Int32 → Int32 → Cz → Option (Int32 × Cz)
  | 0, _, _, _, _, _, _ => none
  | n + 1, x0, x2, x3, x4, x5, κ => if 10 ≤ x5 then some (x4, κ) else b_ErrataRow_hungOver_31 N (b_ErrataRow_hungOver_21 N n) N x0 x2 x3 x4 x5 0 κ
set_option maxHeartbeats 4000000 in
set_option maxRecDepth 100000 in
theorem t_ErrataRow_hungOver_21 {p : Program} {l : Launch} {e : Env} {s : State} {m : MethodId} {args : Array Value} {below : List Frame} {meth : Method} {c : Code} {D : va_G} {θ : Tc} {A : Nat → Prop} (K : KE p s m args c c_ErrataRow_hungOver 7 "ErrataRow" y_ErrataRow_hungOver (some .int) D θ A) (hN : NX s) (hr : meth.sig.returnType = (some .int)) (hlk : meth.locks = false) (N : Nat) (ρ : Int32 × Cz) : ∀ (n : Nat) (x0 : Nat) (x2 : Int32) (x3 : Nat) (x4 : Int32) (x5 : Int32) (κ : Cz), b_ErrataRow_hungOver_21 N n x0 x2 x3 x4 x5 κ = some ρ → JE p l e (rmA 2 0 0) s m args below meth c D θ A 7 0 0 (QEi below args s D θ A 0 0 ρ) κ [(0, .ref x0), (2, .int x2), (3, .ref x3), (4, .int x4), (5, .int x5)] [] 21 := by
  intro n
  induction n with
  | zero =>
    intro x0 x2 x3 x4 x5 κ h
    exact absurd h (by simp [b_ErrataRow_hungOver_21])
  | succ n ih =>
    intro x0 x2 x3 x4 x5 κ h
    rw [b_ErrataRow_hungOver_21] at h
    refine j_iload K 4 d_ErrataRow_hungOver_21 rfl ?_
    refine j_bipush (v := 10) K d_ErrataRow_hungOver_23 (by decide) ?_
    refine j_icmp_ge (tgt := 79) K d_ErrataRow_hungOver_25 (by decide) (fun q => ?_) (fun q => ?_)
    · have h := if_t h q
      refine j_iload K 3 d_ErrataRow_hungOver_79 rfl ?_
      exact eret_i K h hr hlk d_ErrataRow_hungOver_81
    · have h := if_f h q
      refine j_iconst (v := 0) K d_ErrataRow_hungOver_28 (by decide) ?_
      refine j_istore (lv' := [(6, .int 0), (0, .ref x0), (2, .int x2), (3, .ref x3), (4, .int x4), (5, .int x5)]) K d_ErrataRow_hungOver_29 (by decide) rfl ?_
      refine j_sub [1, 2, 3, 4, 5, 0] rfl ?_
      exact t_ErrataRow_hungOver_31 K hN hr hlk N ρ (b_ErrataRow_hungOver_21 N n) ih N x0 x2 x3 x4 x5 0 κ h
def p_ErrataRow_hungOver (N : Nat) (this : Nat) (a1 : Int32) (a2 : Int32) (κ : Cz) : Option (Int32 × Cz) := ck (isK κ this 11) (bo (fr κ this 7) (fun o2 => ck (isK κ o2 10) (bo (fr κ o2 1) (fun o4 => ck (isK κ o4 8) (bo (fr κ o4 2) (fun o6 => ck (isK κ o6 20) (ck (inb a1 (ln κ o6)) (lt ((ai κ o6 a1.toNatClampNeg) &&& a2) (fun v9 => b_ErrataRow_hungOver_21 N N this a2 o6 v9 0 κ)))))))))
set_option maxHeartbeats 4000000 in
set_option maxRecDepth 100000 in
theorem c_ErrataRow_hungOver_ok (l : Launch) (D : va_G) (θ : Tc) (N : Nat) (this : Nat) (a1 : Int32) (a2 : Int32) (κ : Cz) (ρ : Int32 × Cz) (h : p_ErrataRow_hungOver N this a1 a2 κ = some ρ) : CEi l D θ y_ErrataRow_hungOver c_ErrataRow_hungOver 7 (some .int) 2 0 0 [.ref this, .int a1, .int a2] κ ρ := by
  intro sz
  refine e_met l [.ref this, .int a1, .int a2] (by decide +kernel) (Nat.le_of_ble_eq_true rfl) ?_
  intro p e s m args below meth c K hN hr hlk hnm hs
  generalize va_A (wE θ κ) sz = A at K ⊢
  have K : KE p s m args c c_ErrataRow_hungOver 7 "ErrataRow" y_ErrataRow_hungOver (some .int) D θ A := K
  show JE p l e (rmA 2 0 0) s m args below meth c D θ A 7 0 0 (QEi below args s D θ A 0 0 ρ) κ [(0, .ref this), (1, .int a1), (2, .int a2)] [] 0
  unfold p_ErrataRow_hungOver at h
  refine j_aload_n K 0 d_ErrataRow_hungOver_0 rfl rfl ?_
  obtain ⟨q1, h⟩ := ck_e h
  refine eg_ErrataRow_world K ef_ErrataRow_45 q1 d_ErrataRow_hungOver_1 ?_
  obtain ⟨o2, e2, h⟩ := bo_e h
  refine j_eqq e2 ?_
  obtain ⟨q3, h⟩ := ck_e h
  refine eg_World_now K ef_ErrataRow_145 q3 d_ErrataRow_hungOver_4 ?_
  obtain ⟨o4, e4, h⟩ := bo_e h
  refine j_eqq e4 ?_
  obtain ⟨q5, h⟩ := ck_e h
  refine eg_State_hangs K ef_ErrataRow_157 q5 d_ErrataRow_hungOver_7 ?_
  obtain ⟨o6, e6, h⟩ := bo_e h
  refine j_eqq e6 ?_
  refine j_astore_n (lv' := [(3, .ref o6), (0, .ref this), (1, .int a1), (2, .int a2)]) K d_ErrataRow_hungOver_10 rfl (by decide) rfl ?_
  refine j_aload_n K 0 d_ErrataRow_hungOver_11 rfl rfl ?_
  refine j_iload_n K 2 d_ErrataRow_hungOver_12 rfl rfl ?_
  obtain ⟨q7, h⟩ := ck_e h
  obtain ⟨q8, h⟩ := ck_e h
  refine e_iald K q7 (inb_e q8) d_ErrataRow_hungOver_13 ?_
  refine j_iload_n K 3 d_ErrataRow_hungOver_14 rfl rfl ?_
  refine j_iand K d_ErrataRow_hungOver_15 ?_
  obtain ⟨v9, e9, h⟩ := lt_e h
  refine j_eqi e9 ?_
  refine j_istore (lv' := [(4, .int v9), (3, .ref o6), (0, .ref this), (1, .int a1), (2, .int a2)]) K d_ErrataRow_hungOver_16 (by decide) rfl ?_
  refine j_iconst (v := 0) K d_ErrataRow_hungOver_18 (by decide) ?_
  refine j_istore (lv' := [(5, .int 0), (4, .int v9), (3, .ref o6), (0, .ref this), (1, .int a1), (2, .int a2)]) K d_ErrataRow_hungOver_19 (by decide) rfl ?_
  refine j_sub [3, 5, 2, 1, 0] rfl ?_
  exact t_ErrataRow_hungOver_21 K hN hr hlk N ρ N this a2 o6 v9 0 κ h
def b_ErrataRow_findTwice_34 (N : Nat) (k15 : Nat → Int32 → Int32 → Cz → Option (Cz)) (k22 : Nat → Int32 → Int32 → Int32 → Cz → Option (Cz)) : Nat → Nat → Int32 → Int32 → Int32 → Int32 → Cz → Option (Cz)
  | 0, _, _, _, _, _, _ => none
  | n + 1, x0, x1, x2, x3, x4, κ => if x1 < (x4 + x2) then lt (x3 + 1) (fun v12 => k22 x0 x1 x2 v12 κ) else ck (isK κ x0 11) (bd (p_ErrataRow_isSamePart N x0 x3 x4 x2 κ) (fun r13 κ13 => if r13 = 0 then lt (x4 + 1) (fun v15 => b_ErrataRow_findTwice_34 N k15 k22 n x0 x1 x2 x3 v15 κ13) else ck (isK κ13 x0 11) (bo (p_ErrataRow_keepFound N x0 x2 x3 x4 κ13) (fun κ16 => some κ16))))
set_option maxHeartbeats 4000000 in
set_option maxRecDepth 100000 in
theorem t_ErrataRow_findTwice_34 {p : Program} {l : Launch} {e : Env} {s : State} {m : MethodId} {args : Array Value} {below : List Frame} {meth : Method} {c : Code} {D : va_G} {θ : Tc} {A : Nat → Prop} (K : KE p s m args c c_ErrataRow_findTwice 5 "ErrataRow" y_ErrataRow_findTwice none D θ A) (hN : NX s) (hr : meth.sig.returnType = none) (hlk : meth.locks = false) (N : Nat) (ρ : Cz) (k15 : Nat → Int32 → Int32 → Cz → Option (Cz)) (hk15 : ∀ (x0 : Nat) (x1 : Int32) (x2 : Int32) (κ : Cz), k15 x0 x1 x2 κ = some ρ → JE p l e (rmA 2 0 0) s m args below meth c D θ A 5 0 0 (QEv below args s D θ A 0 0 ρ) κ [(0, .ref x0), (1, .int x1), (2, .int x2)] [] 15) (k22 : Nat → Int32 → Int32 → Int32 → Cz → Option (Cz)) (hk22 : ∀ (x0 : Nat) (x1 : Int32) (x2 : Int32) (x3 : Int32) (κ : Cz), k22 x0 x1 x2 x3 κ = some ρ → JE p l e (rmA 2 0 0) s m args below meth c D θ A 5 0 0 (QEv below args s D θ A 0 0 ρ) κ [(0, .ref x0), (1, .int x1), (2, .int x2), (3, .int x3)] [] 22) : ∀ (n : Nat) (x0 : Nat) (x1 : Int32) (x2 : Int32) (x3 : Int32) (x4 : Int32) (κ : Cz), b_ErrataRow_findTwice_34 N k15 k22 n x0 x1 x2 x3 x4 κ = some ρ → JE p l e (rmA 2 0 0) s m args below meth c D θ A 5 0 0 (QEv below args s D θ A 0 0 ρ) κ [(0, .ref x0), (1, .int x1), (2, .int x2), (3, .int x3), (4, .int x4)] [] 34 := by
  intro n
  induction n with
  | zero =>
    intro x0 x1 x2 x3 x4 κ h
    exact absurd h (by simp [b_ErrataRow_findTwice_34])
  | succ n ih =>
    intro x0 x1 x2 x3 x4 κ h
    rw [b_ErrataRow_findTwice_34] at h
    refine j_iload K 4 d_ErrataRow_findTwice_34 rfl ?_
    refine j_iload_n K 2 d_ErrataRow_findTwice_36 rfl rfl ?_
    refine j_iadd K d_ErrataRow_findTwice_37 ?_
    refine j_iload_n K 1 d_ErrataRow_findTwice_38 rfl rfl ?_
    refine j_icmp_gt (tgt := 68) K d_ErrataRow_findTwice_39 (by decide) (fun q => ?_) (fun q => ?_)
    · have h := if_t h q
      obtain ⟨v12, e12, h⟩ := lt_e h
      refine j_iinc (k := 3) (v := v12) (lv' := [(3, .int v12), (0, .ref x0), (1, .int x1), (2, .int x2), (4, .int x4)]) K d_ErrataRow_findTwice_68 rfl (by rw [e12]; rfl) (by decide) rfl ?_
      refine j_goto (tgt := 22) K d_ErrataRow_findTwice_71 (by decide) ?_
      refine j_sub [1, 2, 3, 0] rfl ?_
      exact hk22 x0 x1 x2 v12 κ h
    · have h := if_f h q
      refine j_aload_n K 0 d_ErrataRow_findTwice_42 rfl rfl ?_
      refine j_iload_n K 3 d_ErrataRow_findTwice_43 rfl rfl ?_
      refine j_iload K 4 d_ErrataRow_findTwice_44 rfl ?_
      refine j_iload_n K 2 d_ErrataRow_findTwice_46 rfl rfl ?_
      obtain ⟨q14, h⟩ := ck_e h
      obtain ⟨r13, κ13, e13, h⟩ := bd_e h
      refine ecallV_i K hN (c_ErrataRow_isSamePart_ok l D θ N x0 x3 x4 x2 κ _ e13) eG_ErrataRow_290 eh_ErrataRow_isSamePart (by decide) (rmA_ok (by decide) (by decide)) rfl q14 (by decide) rfl (st := []) (Nat.le_of_ble_eq_true rfl) rfl d_ErrataRow_findTwice_47 ⟨Nat.le_of_ble_eq_true rfl, Nat.le_of_ble_eq_true rfl⟩ ?_
      refine j_if_eq (tgt := 62) K d_ErrataRow_findTwice_50 (by decide) (fun q => ?_) (fun q => ?_)
      · have h := if_t h q
        obtain ⟨v15, e15, h⟩ := lt_e h
        refine j_iinc (k := 4) (v := v15) (lv' := [(4, .int v15), (0, .ref x0), (1, .int x1), (2, .int x2), (3, .int x3)]) K d_ErrataRow_findTwice_62 rfl (by rw [e15]; rfl) (by decide) rfl ?_
        refine j_goto (tgt := 34) K d_ErrataRow_findTwice_65 (by decide) ?_
        refine j_sub [1, 2, 3, 4, 0] rfl ?_
        exact ih x0 x1 x2 x3 v15 κ13 h
      · have h := if_f h q
        refine j_aload_n K 0 d_ErrataRow_findTwice_53 rfl rfl ?_
        refine j_iload_n K 2 d_ErrataRow_findTwice_54 rfl rfl ?_
        refine j_iload_n K 3 d_ErrataRow_findTwice_55 rfl rfl ?_
        refine j_iload K 4 d_ErrataRow_findTwice_56 rfl ?_
        obtain ⟨q17, h⟩ := ck_e h
        obtain ⟨κ16, e16, h⟩ := bo_e h
        refine ecallV_v K hN (c_ErrataRow_keepFound_ok l D θ N x0 x2 x3 x4 κ13 _ e16) eG_ErrataRow_293 eh_ErrataRow_keepFound (by decide) (rmA_ok (by decide) (by decide)) rfl q17 (by decide) rfl (st := []) (Nat.le_of_ble_eq_true rfl) rfl d_ErrataRow_findTwice_58 ⟨Nat.le_of_ble_eq_true rfl, Nat.le_of_ble_eq_true rfl⟩ ?_
        exact eret_v K h hr hlk d_ErrataRow_findTwice_61
def b_ErrataRow_findTwice_22 (N : Nat) (k15 : Nat → Int32 → Int32 → Cz → Option (Cz)) : Nat → Nat → Int32 → Int32 → Int32 → Cz → Option (Cz)
  | 0, _, _, _, _, _ => none
  | n + 1, x0, x1, x2, x3, κ => if x1 ≤ (x3 + x2) then lt (x2 + (-1)) (fun v10 => k15 x0 x1 v10 κ) else lt (x3 + 1) (fun v11 => b_ErrataRow_findTwice_34 N k15 (b_ErrataRow_findTwice_22 N k15 n) N x0 x1 x2 x3 v11 κ)
set_option maxHeartbeats 4000000 in
set_option maxRecDepth 100000 in
theorem t_ErrataRow_findTwice_22 {p : Program} {l : Launch} {e : Env} {s : State} {m : MethodId} {args : Array Value} {below : List Frame} {meth : Method} {c : Code} {D : va_G} {θ : Tc} {A : Nat → Prop} (K : KE p s m args c c_ErrataRow_findTwice 5 "ErrataRow" y_ErrataRow_findTwice none D θ A) (hN : NX s) (hr : meth.sig.returnType = none) (hlk : meth.locks = false) (N : Nat) (ρ : Cz) (k15 : Nat → Int32 → Int32 → Cz → Option (Cz)) (hk15 : ∀ (x0 : Nat) (x1 : Int32) (x2 : Int32) (κ : Cz), k15 x0 x1 x2 κ = some ρ → JE p l e (rmA 2 0 0) s m args below meth c D θ A 5 0 0 (QEv below args s D θ A 0 0 ρ) κ [(0, .ref x0), (1, .int x1), (2, .int x2)] [] 15) : ∀ (n : Nat) (x0 : Nat) (x1 : Int32) (x2 : Int32) (x3 : Int32) (κ : Cz), b_ErrataRow_findTwice_22 N k15 n x0 x1 x2 x3 κ = some ρ → JE p l e (rmA 2 0 0) s m args below meth c D θ A 5 0 0 (QEv below args s D θ A 0 0 ρ) κ [(0, .ref x0), (1, .int x1), (2, .int x2), (3, .int x3)] [] 22 := by
  intro n
  induction n with
  | zero =>
    intro x0 x1 x2 x3 κ h
    exact absurd h (by simp [b_ErrataRow_findTwice_22])
  | succ n ih =>
    intro x0 x1 x2 x3 κ h
    rw [b_ErrataRow_findTwice_22] at h
    refine j_iload_n K 3 d_ErrataRow_findTwice_22 rfl rfl ?_
    refine j_iload_n K 2 d_ErrataRow_findTwice_23 rfl rfl ?_
    refine j_iadd K d_ErrataRow_findTwice_24 ?_
    refine j_iload_n K 1 d_ErrataRow_findTwice_25 rfl rfl ?_
    refine j_icmp_ge (tgt := 74) K d_ErrataRow_findTwice_26 (by decide) (fun q => ?_) (fun q => ?_)
    · have h := if_t h q
      obtain ⟨v10, e10, h⟩ := lt_e h
      refine j_iinc (k := 2) (v := v10) (lv' := [(2, .int v10), (0, .ref x0), (1, .int x1), (3, .int x3)]) K d_ErrataRow_findTwice_74 rfl (by rw [e10]; rfl) (by decide) rfl ?_
      refine j_goto (tgt := 15) K d_ErrataRow_findTwice_77 (by decide) ?_
      refine j_sub [1, 2, 0] rfl ?_
      exact hk15 x0 x1 v10 κ h
    · have h := if_f h q
      refine j_iload_n K 3 d_ErrataRow_findTwice_29 rfl rfl ?_
      refine j_iconst (v := 1) K d_ErrataRow_findTwice_30 (by decide) ?_
      refine j_iadd K d_ErrataRow_findTwice_31 ?_
      obtain ⟨v11, e11, h⟩ := lt_e h
      refine j_eqi e11 ?_
      refine j_istore (lv' := [(4, .int v11), (0, .ref x0), (1, .int x1), (2, .int x2), (3, .int x3)]) K d_ErrataRow_findTwice_32 (by decide) rfl ?_
      refine j_sub [1, 2, 3, 4, 0] rfl ?_
      exact t_ErrataRow_findTwice_34 K hN hr hlk N ρ k15 hk15 (b_ErrataRow_findTwice_22 N k15 n) ih N x0 x1 x2 x3 v11 κ h
def b_ErrataRow_findTwice_15 (N : Nat) : Nat → Nat → Int32 → Int32 → Cz → Option (Cz)
  | 0, _, _, _, _ => none
  | n + 1, x0, x1, x2, κ => if x2 < 1 then ck (isK κ x0 11) (bo (p_ErrataRow_keepFound N x0 0 (-2) (-2) κ) (fun κ8 => some κ8)) else b_ErrataRow_findTwice_22 N (b_ErrataRow_findTwice_15 N n) N x0 x1 x2 0 κ
set_option maxHeartbeats 4000000 in
set_option maxRecDepth 100000 in
theorem t_ErrataRow_findTwice_15 {p : Program} {l : Launch} {e : Env} {s : State} {m : MethodId} {args : Array Value} {below : List Frame} {meth : Method} {c : Code} {D : va_G} {θ : Tc} {A : Nat → Prop} (K : KE p s m args c c_ErrataRow_findTwice 5 "ErrataRow" y_ErrataRow_findTwice none D θ A) (hN : NX s) (hr : meth.sig.returnType = none) (hlk : meth.locks = false) (N : Nat) (ρ : Cz) : ∀ (n : Nat) (x0 : Nat) (x1 : Int32) (x2 : Int32) (κ : Cz), b_ErrataRow_findTwice_15 N n x0 x1 x2 κ = some ρ → JE p l e (rmA 2 0 0) s m args below meth c D θ A 5 0 0 (QEv below args s D θ A 0 0 ρ) κ [(0, .ref x0), (1, .int x1), (2, .int x2)] [] 15 := by
  intro n
  induction n with
  | zero =>
    intro x0 x1 x2 κ h
    exact absurd h (by simp [b_ErrataRow_findTwice_15])
  | succ n ih =>
    intro x0 x1 x2 κ h
    rw [b_ErrataRow_findTwice_15] at h
    refine j_iload_n K 2 d_ErrataRow_findTwice_15 rfl rfl ?_
    refine j_iconst (v := 1) K d_ErrataRow_findTwice_16 (by decide) ?_
    refine j_icmp_lt (tgt := 80) K d_ErrataRow_findTwice_17 (by decide) (fun q => ?_) (fun q => ?_)
    · have h := if_t h q
      refine j_aload_n K 0 d_ErrataRow_findTwice_80 rfl rfl ?_
      refine j_iconst (v := 0) K d_ErrataRow_findTwice_81 (by decide) ?_
      refine j_bipush (v := (-2)) K d_ErrataRow_findTwice_82 (by decide) ?_
      refine j_bipush (v := (-2)) K d_ErrataRow_findTwice_84 (by decide) ?_
      obtain ⟨q9, h⟩ := ck_e h
      obtain ⟨κ8, e8, h⟩ := bo_e h
      refine ecallV_v K hN (c_ErrataRow_keepFound_ok l D θ N x0 0 (-2) (-2) κ _ e8) eG_ErrataRow_293 eh_ErrataRow_keepFound (by decide) (rmA_ok (by decide) (by decide)) rfl q9 (by decide) rfl (st := []) (Nat.le_of_ble_eq_true rfl) rfl d_ErrataRow_findTwice_86 ⟨Nat.le_of_ble_eq_true rfl, Nat.le_of_ble_eq_true rfl⟩ ?_
      exact eret_v K h hr hlk d_ErrataRow_findTwice_89
    · have h := if_f h q
      refine j_iconst (v := 0) K d_ErrataRow_findTwice_20 (by decide) ?_
      refine j_istore_n (lv' := [(3, .int 0), (0, .ref x0), (1, .int x1), (2, .int x2)]) K d_ErrataRow_findTwice_21 rfl (by decide) rfl ?_
      refine j_sub [1, 2, 3, 0] rfl ?_
      exact t_ErrataRow_findTwice_22 K hN hr hlk N ρ (b_ErrataRow_findTwice_15 N n) ih N x0 x1 x2 0 κ h
def p_ErrataRow_findTwice (N : Nat) (this : Nat) (κ : Cz) : Option (Cz) := ck (isK κ this 11) (bo (fr κ this 7) (fun o2 => ck (isK κ o2 10) (bo (fr κ o2 0) (fun o4 => ck (isK κ o4 0) (lt (fi κ o4 2) (fun v6 => lt (v6 - 1) (fun v7 => b_ErrataRow_findTwice_15 N N this v6 v7 κ)))))))
set_option maxHeartbeats 4000000 in
set_option maxRecDepth 100000 in
theorem c_ErrataRow_findTwice_ok (l : Launch) (D : va_G) (θ : Tc) (N : Nat) (this : Nat) (κ : Cz) (ρ : Cz) (h : p_ErrataRow_findTwice N this κ = some ρ) : CEv l D θ y_ErrataRow_findTwice c_ErrataRow_findTwice 5 none 2 0 0 [.ref this] κ ρ := by
  intro sz
  refine e_met l [.ref this] (by decide +kernel) (Nat.le_of_ble_eq_true rfl) ?_
  intro p e s m args below meth c K hN hr hlk hnm hs
  generalize va_A (wE θ κ) sz = A at K ⊢
  have K : KE p s m args c c_ErrataRow_findTwice 5 "ErrataRow" y_ErrataRow_findTwice none D θ A := K
  show JE p l e (rmA 2 0 0) s m args below meth c D θ A 5 0 0 (QEv below args s D θ A 0 0 ρ) κ [(0, .ref this)] [] 0
  unfold p_ErrataRow_findTwice at h
  refine j_aload_n K 0 d_ErrataRow_findTwice_0 rfl rfl ?_
  obtain ⟨q1, h⟩ := ck_e h
  refine eg_ErrataRow_world K ef_ErrataRow_45 q1 d_ErrataRow_findTwice_1 ?_
  obtain ⟨o2, e2, h⟩ := bo_e h
  refine j_eqq e2 ?_
  obtain ⟨q3, h⟩ := ck_e h
  refine eg_World_book K ef_ErrataRow_62 q3 d_ErrataRow_findTwice_4 ?_
  obtain ⟨o4, e4, h⟩ := bo_e h
  refine j_eqq e4 ?_
  obtain ⟨q5, h⟩ := ck_e h
  refine eg_Book_letters K ef_ErrataRow_123 q5 d_ErrataRow_findTwice_7 ?_
  obtain ⟨v6, e6, h⟩ := lt_e h
  refine j_eqi e6 ?_
  refine j_istore_n (lv' := [(1, .int v6), (0, .ref this)]) K d_ErrataRow_findTwice_10 rfl (by decide) rfl ?_
  refine j_iload_n K 0 d_ErrataRow_findTwice_11 rfl rfl ?_
  refine j_iconst (v := 1) K d_ErrataRow_findTwice_12 (by decide) ?_
  refine j_isub K d_ErrataRow_findTwice_13 ?_
  obtain ⟨v7, e7, h⟩ := lt_e h
  refine j_eqi e7 ?_
  refine j_istore_n (lv' := [(2, .int v7), (1, .int v6), (0, .ref this)]) K d_ErrataRow_findTwice_14 rfl (by decide) rfl ?_
  refine j_sub [2, 1, 0] rfl ?_
  exact t_ErrataRow_findTwice_15 K hN hr hlk N ρ N this v6 v7 κ h
def b_ErrataRow_apart_156 (N : Nat) (k97 : Nat → Int32 → Int32 → Int32 → Nat → Int32 → Cz → Option (Int32 × Cz)) (k122 : Nat → Int32 → Int32 → Int32 → Nat → Int32 → Int32 → Int32 → Cz → Option (Int32 × Cz)) (x0 : Nat) (x1 : Int32) (x2 : Int32) (x3 : Int32) (x5 : Nat) (x6 : Int32) (x8 : Int32) (t0 : Int32) (t1 : Int32) (κ : Cz) : Option (Int32 × Cz) := lt (t1 + t0) (fun v36 => ck (isK κ x0 11) (bo (fr κ x0 14) (fun o38 => ck (isK κ o38 20) (ck (inb x8 (ln κ o38)) (lt (ai κ o38 x8.toNatClampNeg) (fun v41 => bo (fr κ x0 14) (fun o42 => bo (fr κ x0 14) (fun o43 => ck (isK κ o43 20) (ck (inb x8 (ln κ o43)) (bo (fr κ x0 14) (fun o46 => lt (x8 - 1) (fun v47 => ck (isK κ o46 20) (ck (inb v47 (ln κ o46)) (lt (if (ai κ o46 v47.toNatClampNeg) < (ai κ o43 x8.toNatClampNeg) then (ai κ o46 v47.toNatClampNeg) else (ai κ o43 x8.toNatClampNeg)) (fun v50 => lt (if (v50 + 1) < v36 then (v50 + 1) else v36) (fun v51 => ck (isK κ o42 20) (ck (inb x8 (ln κ o42)) (lt (sai o42 (upd (ai κ o42) x8.toNatClampNeg v51) κ) (fun κ54 => lt (x8 + 1) (fun v55 => k122 x0 x1 x2 x3 x5 x6 v41 v55 κ54))))))))))))))))))))
set_option maxHeartbeats 4000000 in
set_option maxRecDepth 100000 in
theorem t_ErrataRow_apart_156 {p : Program} {l : Launch} {e : Env} {s : State} {m : MethodId} {args : Array Value} {below : List Frame} {meth : Method} {c : Code} {D : va_G} {θ : Tc} {A : Nat → Prop} (K : KE p s m args c c_ErrataRow_apart 10 "ErrataRow" y_ErrataRow_apart (some .int) D θ A) (hN : NX s) (hr : meth.sig.returnType = (some .int)) (hlk : meth.locks = false) (N : Nat) (ρ : Int32 × Cz) (k97 : Nat → Int32 → Int32 → Int32 → Nat → Int32 → Cz → Option (Int32 × Cz)) (hk97 : ∀ (x0 : Nat) (x1 : Int32) (x2 : Int32) (x3 : Int32) (x5 : Nat) (x6 : Int32) (κ : Cz), k97 x0 x1 x2 x3 x5 x6 κ = some ρ → JE p l e (rmA 2 0 0) s m args below meth c D θ A 10 0 0 (QEi below args s D θ A 0 0 ρ) κ [(0, .ref x0), (1, .int x1), (2, .int x2), (3, .int x3), (5, .ref x5), (6, .int x6)] [] 97) (k122 : Nat → Int32 → Int32 → Int32 → Nat → Int32 → Int32 → Int32 → Cz → Option (Int32 × Cz)) (hk122 : ∀ (x0 : Nat) (x1 : Int32) (x2 : Int32) (x3 : Int32) (x5 : Nat) (x6 : Int32) (x7 : Int32) (x8 : Int32) (κ : Cz), k122 x0 x1 x2 x3 x5 x6 x7 x8 κ = some ρ → JE p l e (rmA 2 0 0) s m args below meth c D θ A 10 0 0 (QEi below args s D θ A 0 0 ρ) κ [(0, .ref x0), (1, .int x1), (2, .int x2), (3, .int x3), (5, .ref x5), (6, .int x6), (7, .int x7), (8, .int x8)] [] 122) (x0 : Nat) (x1 : Int32) (x2 : Int32) (x3 : Int32) (x5 : Nat) (x6 : Int32) (x8 : Int32) (t0 : Int32) (t1 : Int32) (κ : Cz) (h : b_ErrataRow_apart_156 N k97 k122 x0 x1 x2 x3 x5 x6 x8 t0 t1 κ = some ρ) : JE p l e (rmA 2 0 0) s m args below meth c D θ A 10 0 0 (QEi below args s D θ A 0 0 ρ) κ [(0, .ref x0), (1, .int x1), (2, .int x2), (3, .int x3), (5, .ref x5), (6, .int x6), (8, .int x8)] [.int t0, .int t1] 156 := by
  unfold b_ErrataRow_apart_156 at h
  refine j_iadd K d_ErrataRow_apart_156 ?_
  obtain ⟨v36, e36, h⟩ := lt_e h
  refine j_eqi e36 ?_
  refine j_istore (lv' := [(9, .int v36), (0, .ref x0), (1, .int x1), (2, .int x2), (3, .int x3), (5, .ref x5), (6, .int x6), (8, .int x8)]) K d_ErrataRow_apart_157 (by decide) rfl ?_
  refine j_aload_n K 1 d_ErrataRow_apart_159 rfl rfl ?_
  obtain ⟨q37, h⟩ := ck_e h
  refine eg_ErrataRow_scratch K ef_ErrataRow_92 q37 d_ErrataRow_apart_160 ?_
  obtain ⟨o38, e38, h⟩ := bo_e h
  refine j_eqq e38 ?_
  refine j_iload K 7 d_ErrataRow_apart_163 rfl ?_
  obtain ⟨q39, h⟩ := ck_e h
  obtain ⟨q40, h⟩ := ck_e h
  refine e_iald K q39 (inb_e q40) d_ErrataRow_apart_165 ?_
  obtain ⟨v41, e41, h⟩ := lt_e h
  refine j_eqi e41 ?_
  refine j_istore (lv' := [(7, .int v41), (9, .int v36), (0, .ref x0), (1, .int x1), (2, .int x2), (3, .int x3), (5, .ref x5), (6, .int x6), (8, .int x8)]) K d_ErrataRow_apart_166 (by decide) rfl ?_
  refine j_aload_n K 2 d_ErrataRow_apart_168 rfl rfl ?_
  refine eg_ErrataRow_scratch K ef_ErrataRow_92 q37 d_ErrataRow_apart_169 ?_
  obtain ⟨o42, e42, h⟩ := bo_e h
  refine j_eqq e42 ?_
  refine j_iload K 8 d_ErrataRow_apart_172 rfl ?_
  refine j_iload K 1 d_ErrataRow_apart_174 rfl ?_
  refine j_aload_n K 2 d_ErrataRow_apart_176 rfl rfl ?_
  refine eg_ErrataRow_scratch K ef_ErrataRow_92 q37 d_ErrataRow_apart_177 ?_
  obtain ⟨o43, e43, h⟩ := bo_e h
  refine j_eqq e43 ?_
  refine j_iload K 8 d_ErrataRow_apart_180 rfl ?_
  obtain ⟨q44, h⟩ := ck_e h
  obtain ⟨q45, h⟩ := ck_e h
  refine e_iald K q44 (inb_e q45) d_ErrataRow_apart_182 ?_
  refine j_aload_n K 2 d_ErrataRow_apart_183 rfl rfl ?_
  refine eg_ErrataRow_scratch K ef_ErrataRow_92 q37 d_ErrataRow_apart_184 ?_
  obtain ⟨o46, e46, h⟩ := bo_e h
  refine j_eqq e46 ?_
  refine j_iload K 8 d_ErrataRow_apart_187 rfl ?_
  refine j_iconst (v := 1) K d_ErrataRow_apart_189 (by decide) ?_
  refine j_isub K d_ErrataRow_apart_190 ?_
  obtain ⟨v47, e47, h⟩ := lt_e h
  refine j_eqi e47 ?_
  obtain ⟨q48, h⟩ := ck_e h
  obtain ⟨q49, h⟩ := ck_e h
  refine e_iald K q48 (inb_e q49) d_ErrataRow_apart_191 ?_
  refine e_mmin K el_ErrataRow_228 es_mmin ei_Math ec_mmin (by decide) (Nat.le_of_ble_eq_true rfl) (Nat.le_of_ble_eq_true rfl) (Nat.le_of_ble_eq_true rfl) d_ErrataRow_apart_192 ?_
  obtain ⟨v50, e50, h⟩ := lt_e h
  refine j_eqi e50 ?_
  refine j_iconst (v := 1) K d_ErrataRow_apart_195 (by decide) ?_
  refine j_iadd K d_ErrataRow_apart_196 ?_
  refine e_mmin K el_ErrataRow_228 es_mmin ei_Math ec_mmin (by decide) (Nat.le_of_ble_eq_true rfl) (Nat.le_of_ble_eq_true rfl) (Nat.le_of_ble_eq_true rfl) d_ErrataRow_apart_197 ?_
  obtain ⟨v51, e51, h⟩ := lt_e h
  refine j_eqi e51 ?_
  obtain ⟨q52, h⟩ := ck_e h
  obtain ⟨q53, h⟩ := ck_e h
  obtain ⟨κ54, e54, h⟩ := lt_e h
  refine e_iast K q52 (inb_e q53) d_ErrataRow_apart_200 e54 ?_
  obtain ⟨v55, e55, h⟩ := lt_e h
  refine j_iinc (k := 8) (v := v55) (lv' := [(8, .int v55), (7, .int v41), (9, .int v36), (0, .ref x0), (1, .int x1), (2, .int x2), (3, .int x3), (5, .ref x5), (6, .int x6)]) K d_ErrataRow_apart_201 rfl (by rw [e55]; rfl) (by decide) rfl ?_
  refine j_goto (tgt := 122) K d_ErrataRow_apart_204 (by decide) ?_
  refine j_sub [3, 4, 5, 6, 7, 8, 1, 0] rfl ?_
  exact hk122 x0 x1 x2 x3 x5 x6 v41 v55 κ54 h
def b_ErrataRow_apart_122 (N : Nat) (k97 : Nat → Int32 → Int32 → Int32 → Nat → Int32 → Cz → Option (Int32 × Cz)) : Nat → Nat → Int32 → Int32 → Int32 → Nat → Int32 → Int32 → Int32 → Cz → Option (Int32 × Cz)
  | 0, _, _, _, _, _, _, _, _, _ => none
  | n + 1, x0, x1, x2, x3, x5, x6, x7, x8, κ => if x3 < x8 then lt (x6 + 1) (fun v30 => k97 x0 x1 x2 x3 x5 v30 κ) else lt ((x1 + x6) - 1) (fun v31 => ck (isK κ x5 20) (ck (inb v31 (ln κ x5)) (lt ((x2 + x8) - 1) (fun v34 => ck (inb v34 (ln κ x5)) (if (ai κ x5 v31.toNatClampNeg) = (ai κ x5 v34.toNatClampNeg) then b_ErrataRow_apart_156 N k97 (b_ErrataRow_apart_122 N k97 n) x0 x1 x2 x3 x5 x6 x8 0 x7 κ else b_ErrataRow_apart_156 N k97 (b_ErrataRow_apart_122 N k97 n) x0 x1 x2 x3 x5 x6 x8 1 x7 κ)))))
set_option maxHeartbeats 4000000 in
set_option maxRecDepth 100000 in
theorem t_ErrataRow_apart_122 {p : Program} {l : Launch} {e : Env} {s : State} {m : MethodId} {args : Array Value} {below : List Frame} {meth : Method} {c : Code} {D : va_G} {θ : Tc} {A : Nat → Prop} (K : KE p s m args c c_ErrataRow_apart 10 "ErrataRow" y_ErrataRow_apart (some .int) D θ A) (hN : NX s) (hr : meth.sig.returnType = (some .int)) (hlk : meth.locks = false) (N : Nat) (ρ : Int32 × Cz) (k97 : Nat → Int32 → Int32 → Int32 → Nat → Int32 → Cz → Option (Int32 × Cz)) (hk97 : ∀ (x0 : Nat) (x1 : Int32) (x2 : Int32) (x3 : Int32) (x5 : Nat) (x6 : Int32) (κ : Cz), k97 x0 x1 x2 x3 x5 x6 κ = some ρ → JE p l e (rmA 2 0 0) s m args below meth c D θ A 10 0 0 (QEi below args s D θ A 0 0 ρ) κ [(0, .ref x0), (1, .int x1), (2, .int x2), (3, .int x3), (5, .ref x5), (6, .int x6)] [] 97) : ∀ (n : Nat) (x0 : Nat) (x1 : Int32) (x2 : Int32) (x3 : Int32) (x5 : Nat) (x6 : Int32) (x7 : Int32) (x8 : Int32) (κ : Cz), b_ErrataRow_apart_122 N k97 n x0 x1 x2 x3 x5 x6 x7 x8 κ = some ρ → JE p l e (rmA 2 0 0) s m args below meth c D θ A 10 0 0 (QEi below args s D θ A 0 0 ρ) κ [(0, .ref x0), (1, .int x1), (2, .int x2), (3, .int x3), (5, .ref x5), (6, .int x6), (7, .int x7), (8, .int x8)] [] 122 := by
  intro n
  induction n with
  | zero =>
    intro x0 x1 x2 x3 x5 x6 x7 x8 κ h
    exact absurd h (by simp [b_ErrataRow_apart_122])
  | succ n ih =>
    intro x0 x1 x2 x3 x5 x6 x7 x8 κ h
    rw [b_ErrataRow_apart_122] at h
    refine j_iload K 7 d_ErrataRow_apart_122 rfl ?_
    refine j_iload_n K 3 d_ErrataRow_apart_124 rfl rfl ?_
    refine j_icmp_gt (tgt := 207) K d_ErrataRow_apart_125 (by decide) (fun q => ?_) (fun q => ?_)
    · have h := if_t h q
      obtain ⟨v30, e30, h⟩ := lt_e h
      refine j_iinc (k := 5) (v := v30) (lv' := [(6, .int v30), (0, .ref x0), (1, .int x1), (2, .int x2), (3, .int x3), (5, .ref x5), (7, .int x7), (8, .int x8)]) K d_ErrataRow_apart_207 rfl (by rw [e30]; rfl) (by decide) rfl ?_
      refine j_goto (tgt := 97) K d_ErrataRow_apart_210 (by decide) ?_
      refine j_sub [1, 2, 3, 4, 5, 0] rfl ?_
      exact hk97 x0 x1 x2 x3 x5 v30 κ h
    · have h := if_f h q
      refine j_iload K 6 d_ErrataRow_apart_128 rfl ?_
      refine j_aload K 4 d_ErrataRow_apart_130 rfl ?_
      refine j_iload_n K 1 d_ErrataRow_apart_132 rfl rfl ?_
      refine j_iload K 5 d_ErrataRow_apart_133 rfl ?_
      refine j_iadd K d_ErrataRow_apart_135 ?_
      refine j_iconst (v := 1) K d_ErrataRow_apart_136 (by decide) ?_
      refine j_isub K d_ErrataRow_apart_137 ?_
      obtain ⟨v31, e31, h⟩ := lt_e h
      refine j_eqi e31 ?_
      obtain ⟨q32, h⟩ := ck_e h
      obtain ⟨q33, h⟩ := ck_e h
      refine e_iald K q32 (inb_e q33) d_ErrataRow_apart_138 ?_
      refine j_aload K 4 d_ErrataRow_apart_139 rfl ?_
      refine j_iload_n K 2 d_ErrataRow_apart_141 rfl rfl ?_
      refine j_iload K 7 d_ErrataRow_apart_142 rfl ?_
      refine j_iadd K d_ErrataRow_apart_144 ?_
      refine j_iconst (v := 1) K d_ErrataRow_apart_145 (by decide) ?_
      refine j_isub K d_ErrataRow_apart_146 ?_
      obtain ⟨v34, e34, h⟩ := lt_e h
      refine j_eqi e34 ?_
      obtain ⟨q35, h⟩ := ck_e h
      refine e_iald K q32 (inb_e q35) d_ErrataRow_apart_147 ?_
      refine j_icmp_ne (tgt := 155) K d_ErrataRow_apart_148 (by decide) (fun q => ?_) (fun q => ?_)
      · have h := if_f h q
        refine j_iconst (v := 1) K d_ErrataRow_apart_155 (by decide) ?_
        refine j_sub [0, 1, 2, 3, 4, 5, 7] rfl ?_
        exact t_ErrataRow_apart_156 K hN hr hlk N ρ k97 hk97 (b_ErrataRow_apart_122 N k97 n) ih x0 x1 x2 x3 x5 x6 x8 1 x7 κ h
      · have h := if_t h q
        refine j_iconst (v := 0) K d_ErrataRow_apart_151 (by decide) ?_
        refine j_goto (tgt := 156) K d_ErrataRow_apart_152 (by decide) ?_
        refine j_sub [0, 1, 2, 3, 4, 5, 7] rfl ?_
        exact t_ErrataRow_apart_156 K hN hr hlk N ρ k97 hk97 (b_ErrataRow_apart_122 N k97 n) ih x0 x1 x2 x3 x5 x6 x8 0 x7 κ h
def b_ErrataRow_apart_97 (N : Nat) : Nat → Nat → Int32 → Int32 → Int32 → Nat → Int32 → Cz → Option (Int32 × Cz)
  | 0, _, _, _, _, _, _, _ => none
  | n + 1, x0, x1, x2, x3, x5, x6, κ => if x3 < x6 then ck (isK κ x0 11) (bo (fr κ x0 14) (fun o18 => ck (isK κ o18 20) (ck (inb x3 (ln κ o18)) (some (ai κ o18 x3.toNatClampNeg, κ))))) else ck (isK κ x0 11) (bo (fr κ x0 14) (fun o22 => ck (isK κ o22 20) (ck (inb (0 : Int32) (ln κ o22)) (lt (ai κ o22 (0 : Int32).toNatClampNeg) (fun v25 => bo (fr κ x0 14) (fun o26 => ck (isK κ o26 20) (ck (inb (0 : Int32) (ln κ o26)) (lt (sai o26 (upd (ai κ o26) (0 : Int32).toNatClampNeg x6) κ) (fun κ29 => b_ErrataRow_apart_122 N (b_ErrataRow_apart_97 N n) N x0 x1 x2 x3 x5 x6 v25 1 κ29)))))))))
set_option maxHeartbeats 4000000 in
set_option maxRecDepth 100000 in
theorem t_ErrataRow_apart_97 {p : Program} {l : Launch} {e : Env} {s : State} {m : MethodId} {args : Array Value} {below : List Frame} {meth : Method} {c : Code} {D : va_G} {θ : Tc} {A : Nat → Prop} (K : KE p s m args c c_ErrataRow_apart 10 "ErrataRow" y_ErrataRow_apart (some .int) D θ A) (hN : NX s) (hr : meth.sig.returnType = (some .int)) (hlk : meth.locks = false) (N : Nat) (ρ : Int32 × Cz) : ∀ (n : Nat) (x0 : Nat) (x1 : Int32) (x2 : Int32) (x3 : Int32) (x5 : Nat) (x6 : Int32) (κ : Cz), b_ErrataRow_apart_97 N n x0 x1 x2 x3 x5 x6 κ = some ρ → JE p l e (rmA 2 0 0) s m args below meth c D θ A 10 0 0 (QEi below args s D θ A 0 0 ρ) κ [(0, .ref x0), (1, .int x1), (2, .int x2), (3, .int x3), (5, .ref x5), (6, .int x6)] [] 97 := by
  intro n
  induction n with
  | zero =>
    intro x0 x1 x2 x3 x5 x6 κ h
    exact absurd h (by simp [b_ErrataRow_apart_97])
  | succ n ih =>
    intro x0 x1 x2 x3 x5 x6 κ h
    rw [b_ErrataRow_apart_97] at h
    refine j_iload K 5 d_ErrataRow_apart_97 rfl ?_
    refine j_iload_n K 3 d_ErrataRow_apart_99 rfl rfl ?_
    refine j_icmp_gt (tgt := 213) K d_ErrataRow_apart_100 (by decide) (fun q => ?_) (fun q => ?_)
    · have h := if_t h q
      refine j_aload_n K 0 d_ErrataRow_apart_213 rfl rfl ?_
      obtain ⟨q17, h⟩ := ck_e h
      refine eg_ErrataRow_scratch K ef_ErrataRow_92 q17 d_ErrataRow_apart_214 ?_
      obtain ⟨o18, e18, h⟩ := bo_e h
      refine j_eqq e18 ?_
      refine j_iload_n K 3 d_ErrataRow_apart_217 rfl rfl ?_
      obtain ⟨q19, h⟩ := ck_e h
      obtain ⟨q20, h⟩ := ck_e h
      refine e_iald K q19 (inb_e q20) d_ErrataRow_apart_218 ?_
      exact eret_i K h hr hlk d_ErrataRow_apart_219
    · have h := if_f h q
      refine j_aload_n K 0 d_ErrataRow_apart_103 rfl rfl ?_
      obtain ⟨q21, h⟩ := ck_e h
      refine eg_ErrataRow_scratch K ef_ErrataRow_92 q21 d_ErrataRow_apart_104 ?_
      obtain ⟨o22, e22, h⟩ := bo_e h
      refine j_eqq e22 ?_
      refine j_iconst (v := 0) K d_ErrataRow_apart_107 (by decide) ?_
      obtain ⟨q23, h⟩ := ck_e h
      obtain ⟨q24, h⟩ := ck_e h
      refine e_iald K q23 (inb_e q24) d_ErrataRow_apart_108 ?_
      obtain ⟨v25, e25, h⟩ := lt_e h
      refine j_eqi e25 ?_
      refine j_istore (lv' := [(7, .int v25), (0, .ref x0), (1, .int x1), (2, .int x2), (3, .int x3), (5, .ref x5), (6, .int x6)]) K d_ErrataRow_apart_109 (by decide) rfl ?_
      refine j_aload_n K 1 d_ErrataRow_apart_111 rfl rfl ?_
      refine eg_ErrataRow_scratch K ef_ErrataRow_92 q21 d_ErrataRow_apart_112 ?_
      obtain ⟨o26, e26, h⟩ := bo_e h
      refine j_eqq e26 ?_
      refine j_iconst (v := 0) K d_ErrataRow_apart_115 (by decide) ?_
      refine j_iload K 6 d_ErrataRow_apart_116 rfl ?_
      obtain ⟨q27, h⟩ := ck_e h
      obtain ⟨q28, h⟩ := ck_e h
      obtain ⟨κ29, e29, h⟩ := lt_e h
      refine e_iast K q27 (inb_e q28) d_ErrataRow_apart_118 e29 ?_
      refine j_iconst (v := 1) K d_ErrataRow_apart_119 (by decide) ?_
      refine j_istore (lv' := [(8, .int 1), (7, .int v25), (0, .ref x0), (1, .int x1), (2, .int x2), (3, .int x3), (5, .ref x5), (6, .int x6)]) K d_ErrataRow_apart_120 (by decide) rfl ?_
      refine j_sub [2, 3, 4, 5, 6, 7, 1, 0] rfl ?_
      exact t_ErrataRow_apart_122 K hN hr hlk N ρ (b_ErrataRow_apart_97 N n) ih N x0 x1 x2 x3 x5 x6 v25 1 κ29 h
def b_ErrataRow_apart_73 (N : Nat) : Nat → Nat → Int32 → Int32 → Int32 → Nat → Int32 → Cz → Option (Int32 × Cz)
  | 0, _, _, _, _, _, _, _ => none
  | n + 1, x0, x1, x2, x3, x5, x6, κ => if x3 < x6 then b_ErrataRow_apart_97 N N x0 x1 x2 x3 x5 1 κ else ck (isK κ x0 11) (bo (fr κ x0 14) (fun o57 => ck (isK κ o57 20) (ck (inb x6 (ln κ o57)) (lt (sai o57 (upd (ai κ o57) x6.toNatClampNeg x6) κ) (fun κ60 => lt (x6 + 1) (fun v61 => b_ErrataRow_apart_73 N n x0 x1 x2 x3 x5 v61 κ60))))))
set_option maxHeartbeats 4000000 in
set_option maxRecDepth 100000 in
theorem t_ErrataRow_apart_73 {p : Program} {l : Launch} {e : Env} {s : State} {m : MethodId} {args : Array Value} {below : List Frame} {meth : Method} {c : Code} {D : va_G} {θ : Tc} {A : Nat → Prop} (K : KE p s m args c c_ErrataRow_apart 10 "ErrataRow" y_ErrataRow_apart (some .int) D θ A) (hN : NX s) (hr : meth.sig.returnType = (some .int)) (hlk : meth.locks = false) (N : Nat) (ρ : Int32 × Cz) : ∀ (n : Nat) (x0 : Nat) (x1 : Int32) (x2 : Int32) (x3 : Int32) (x5 : Nat) (x6 : Int32) (κ : Cz), b_ErrataRow_apart_73 N n x0 x1 x2 x3 x5 x6 κ = some ρ → JE p l e (rmA 2 0 0) s m args below meth c D θ A 10 0 0 (QEi below args s D θ A 0 0 ρ) κ [(0, .ref x0), (1, .int x1), (2, .int x2), (3, .int x3), (5, .ref x5), (6, .int x6)] [] 73 := by
  intro n
  induction n with
  | zero =>
    intro x0 x1 x2 x3 x5 x6 κ h
    exact absurd h (by simp [b_ErrataRow_apart_73])
  | succ n ih =>
    intro x0 x1 x2 x3 x5 x6 κ h
    rw [b_ErrataRow_apart_73] at h
    refine j_iload K 5 d_ErrataRow_apart_73 rfl ?_
    refine j_iload_n K 3 d_ErrataRow_apart_75 rfl rfl ?_
    refine j_icmp_gt (tgt := 94) K d_ErrataRow_apart_76 (by decide) (fun q => ?_) (fun q => ?_)
    · have h := if_t h q
      refine j_iconst (v := 1) K d_ErrataRow_apart_94 (by decide) ?_
      refine j_istore (lv' := [(6, .int 1), (0, .ref x0), (1, .int x1), (2, .int x2), (3, .int x3), (5, .ref x5)]) K d_ErrataRow_apart_95 (by decide) rfl ?_
      refine j_sub [1, 2, 3, 4, 5, 0] rfl ?_
      exact t_ErrataRow_apart_97 K hN hr hlk N ρ N x0 x1 x2 x3 x5 1 κ h
    · have h := if_f h q
      refine j_aload_n K 0 d_ErrataRow_apart_79 rfl rfl ?_
      obtain ⟨q56, h⟩ := ck_e h
      refine eg_ErrataRow_scratch K ef_ErrataRow_92 q56 d_ErrataRow_apart_80 ?_
      obtain ⟨o57, e57, h⟩ := bo_e h
      refine j_eqq e57 ?_
      refine j_iload K 5 d_ErrataRow_apart_83 rfl ?_
      refine j_iload K 5 d_ErrataRow_apart_85 rfl ?_
      obtain ⟨q58, h⟩ := ck_e h
      obtain ⟨q59, h⟩ := ck_e h
      obtain ⟨κ60, e60, h⟩ := lt_e h
      refine e_iast K q58 (inb_e q59) d_ErrataRow_apart_87 e60 ?_
      obtain ⟨v61, e61, h⟩ := lt_e h
      refine j_iinc (k := 5) (v := v61) (lv' := [(6, .int v61), (0, .ref x0), (1, .int x1), (2, .int x2), (3, .int x3), (5, .ref x5)]) K d_ErrataRow_apart_88 rfl (by rw [e61]; rfl) (by decide) rfl ?_
      refine j_goto (tgt := 73) K d_ErrataRow_apart_91 (by decide) ?_
      refine j_sub [1, 2, 3, 4, 5, 0] rfl ?_
      exact ih x0 x1 x2 x3 x5 v61 κ60 h
def p_ErrataRow_apart (N : Nat) (this : Nat) (a1 : Int32) (a2 : Int32) (a3 : Int32) (κ : Cz) : Option (Int32 × Cz) := ck (isK κ this 11) (bd (p_ErrataRow_isLetter N this a1 κ) (fun r1 κ1 => if r1 = 0 then some ((-1), κ1) else ck (isK κ1 this 11) (bd (p_ErrataRow_isLetter N this a2 κ1) (fun r3 κ3 => if r3 = 0 then some ((-1), κ3) else bd (p_ErrataRow_within N a3 1 10 κ3) (fun r5 κ5 => if r5 = 0 then some ((-1), κ5) else ck (isK κ5 this 11) (bo (fr κ5 this 7) (fun o7 => ck (isK κ5 o7 10) (bo (fr κ5 o7 0) (fun o9 => ck (isK κ5 o9 0) (lt (fi κ5 o9 2) (fun v11 => if v11 < (a1 + a3) then some ((-1), κ5) else if (a2 + a3) ≤ v11 then bo (fr κ5 this 7) (fun o12 => ck (isK κ5 o12 10) (bo (fr κ5 o12 1) (fun o14 => ck (isK κ5 o14 8) (bo (fr κ5 o14 0) (fun o16 => b_ErrataRow_apart_73 N N this a1 a2 a3 o16 0 κ5))))) else some ((-1), κ5))))))))))))
set_option maxHeartbeats 4000000 in
set_option maxRecDepth 100000 in
theorem c_ErrataRow_apart_ok (l : Launch) (D : va_G) (θ : Tc) (N : Nat) (this : Nat) (a1 : Int32) (a2 : Int32) (a3 : Int32) (κ : Cz) (ρ : Int32 × Cz) (h : p_ErrataRow_apart N this a1 a2 a3 κ = some ρ) : CEi l D θ y_ErrataRow_apart c_ErrataRow_apart 10 (some .int) 2 0 0 [.ref this, .int a1, .int a2, .int a3] κ ρ := by
  intro sz
  refine e_met l [.ref this, .int a1, .int a2, .int a3] (by decide +kernel) (Nat.le_of_ble_eq_true rfl) ?_
  intro p e s m args below meth c K hN hr hlk hnm hs
  generalize va_A (wE θ κ) sz = A at K ⊢
  have K : KE p s m args c c_ErrataRow_apart 10 "ErrataRow" y_ErrataRow_apart (some .int) D θ A := K
  show JE p l e (rmA 2 0 0) s m args below meth c D θ A 10 0 0 (QEi below args s D θ A 0 0 ρ) κ [(0, .ref this), (1, .int a1), (2, .int a2), (3, .int a3)] [] 0
  unfold p_ErrataRow_apart at h
  refine j_aload_n K 0 d_ErrataRow_apart_0 rfl rfl ?_
  refine j_iload_n K 1 d_ErrataRow_apart_1 rfl rfl ?_
  obtain ⟨q2, h⟩ := ck_e h
  obtain ⟨r1, κ1, e1, h⟩ := bd_e h
  refine ecallV_i K hN (c_ErrataRow_isLetter_ok l D θ N this a1 κ _ e1) eG_ErrataRow_141 eh_ErrataRow_isLetter (by decide) (rmA_ok (by decide) (by decide)) rfl q2 (by decide) rfl (st := []) (Nat.le_of_ble_eq_true rfl) rfl d_ErrataRow_apart_2 ⟨Nat.le_of_ble_eq_true rfl, Nat.le_of_ble_eq_true rfl⟩ ?_
  refine j_if_eq (tgt := 26) K d_ErrataRow_apart_5 (by decide) (fun q => ?_) (fun q => ?_)
  · have h := if_t h q
    refine j_iconst (v := (-1)) K d_ErrataRow_apart_26 (by decide) ?_
    exact eret_i K h hr hlk d_ErrataRow_apart_27
  · have h := if_f h q
    refine j_aload_n K 0 d_ErrataRow_apart_8 rfl rfl ?_
    refine j_iload_n K 2 d_ErrataRow_apart_9 rfl rfl ?_
    obtain ⟨q4, h⟩ := ck_e h
    obtain ⟨r3, κ3, e3, h⟩ := bd_e h
    refine ecallV_i K hN (c_ErrataRow_isLetter_ok l D θ N this a2 κ1 _ e3) eG_ErrataRow_141 eh_ErrataRow_isLetter (by decide) (rmA_ok (by decide) (by decide)) rfl q4 (by decide) rfl (st := []) (Nat.le_of_ble_eq_true rfl) rfl d_ErrataRow_apart_10 ⟨Nat.le_of_ble_eq_true rfl, Nat.le_of_ble_eq_true rfl⟩ ?_
    refine j_if_eq (tgt := 26) K d_ErrataRow_apart_13 (by decide) (fun q => ?_) (fun q => ?_)
    · have h := if_t h q
      refine j_iconst (v := (-1)) K d_ErrataRow_apart_26 (by decide) ?_
      exact eret_i K h hr hlk d_ErrataRow_apart_27
    · have h := if_f h q
      refine j_iload_n K 3 d_ErrataRow_apart_16 rfl rfl ?_
      refine j_iconst (v := 1) K d_ErrataRow_apart_17 (by decide) ?_
      refine j_bipush (v := 10) K d_ErrataRow_apart_18 (by decide) ?_
      obtain ⟨r5, κ5, e5, h⟩ := bd_e h
      refine ecallS_i K hN (c_ErrataRow_within_ok l D θ N a3 1 10 κ3 _ e5) eG_ErrataRow_166 eh_ErrataRow_within (by decide) (rmA_ok (by decide) (by decide)) rfl (st := []) (Nat.le_of_ble_eq_true rfl) rfl d_ErrataRow_apart_20 ⟨Nat.le_of_ble_eq_true rfl, Nat.le_of_ble_eq_true rfl⟩ ?_
      refine j_if_ne (tgt := 28) K d_ErrataRow_apart_23 (by decide) (fun q => ?_) (fun q => ?_)
      · have h := if_f h q
        refine j_aload_n K 0 d_ErrataRow_apart_28 rfl rfl ?_
        obtain ⟨q6, h⟩ := ck_e h
        refine eg_ErrataRow_world K ef_ErrataRow_45 q6 d_ErrataRow_apart_29 ?_
        obtain ⟨o7, e7, h⟩ := bo_e h
        refine j_eqq e7 ?_
        obtain ⟨q8, h⟩ := ck_e h
        refine eg_World_book K ef_ErrataRow_62 q8 d_ErrataRow_apart_32 ?_
        obtain ⟨o9, e9, h⟩ := bo_e h
        refine j_eqq e9 ?_
        obtain ⟨q10, h⟩ := ck_e h
        refine eg_Book_letters K ef_ErrataRow_123 q10 d_ErrataRow_apart_35 ?_
        obtain ⟨v11, e11, h⟩ := lt_e h
        refine j_eqi e11 ?_
        refine j_istore (lv' := [(4, .int v11), (0, .ref this), (1, .int a1), (2, .int a2), (3, .int a3)]) K d_ErrataRow_apart_38 (by decide) rfl ?_
        refine j_iload_n K 2 d_ErrataRow_apart_40 rfl rfl ?_
        refine j_iload_n K 4 d_ErrataRow_apart_41 rfl rfl ?_
        refine j_iadd K d_ErrataRow_apart_42 ?_
        refine j_iload K 0 d_ErrataRow_apart_43 rfl ?_
        refine j_icmp_gt (tgt := 56) K d_ErrataRow_apart_45 (by decide) (fun q => ?_) (fun q => ?_)
        · have h := if_t h q
          refine j_iconst (v := (-1)) K d_ErrataRow_apart_56 (by decide) ?_
          exact eret_i K h hr hlk d_ErrataRow_apart_57
        · have h := if_f h q
          refine j_iload_n K 3 d_ErrataRow_apart_48 rfl rfl ?_
          refine j_iload_n K 4 d_ErrataRow_apart_49 rfl rfl ?_
          refine j_iadd K d_ErrataRow_apart_50 ?_
          refine j_iload K 0 d_ErrataRow_apart_51 rfl ?_
          refine j_icmp_le (tgt := 58) K d_ErrataRow_apart_53 (by decide) (fun q => ?_) (fun q => ?_)
          · have h := if_t h q
            refine j_aload_n K 1 d_ErrataRow_apart_58 rfl rfl ?_
            refine eg_ErrataRow_world K ef_ErrataRow_45 q6 d_ErrataRow_apart_59 ?_
            obtain ⟨o12, e12, h⟩ := bo_e h
            refine j_eqq e12 ?_
            obtain ⟨q13, h⟩ := ck_e h
            refine eg_World_now K ef_ErrataRow_145 q13 d_ErrataRow_apart_62 ?_
            obtain ⟨o14, e14, h⟩ := bo_e h
            refine j_eqq e14 ?_
            obtain ⟨q15, h⟩ := ck_e h
            refine eg_State_put K ef_ErrataRow_148 q15 d_ErrataRow_apart_65 ?_
            obtain ⟨o16, e16, h⟩ := bo_e h
            refine j_eqq e16 ?_
            refine j_astore (lv' := [(5, .ref o16), (4, .int v11), (0, .ref this), (1, .int a1), (2, .int a2), (3, .int a3)]) K d_ErrataRow_apart_68 (by decide) rfl ?_
            refine j_iconst (v := 0) K d_ErrataRow_apart_70 (by decide) ?_
            refine j_istore (lv' := [(6, .int 0), (5, .ref o16), (4, .int v11), (0, .ref this), (1, .int a1), (2, .int a2), (3, .int a3)]) K d_ErrataRow_apart_71 (by decide) rfl ?_
            refine j_sub [3, 4, 5, 6, 1, 0] rfl ?_
            exact t_ErrataRow_apart_73 K hN hr hlk N ρ N this a1 a2 a3 o16 0 κ5 h
          · have h := if_f h q
            refine j_iconst (v := (-1)) K d_ErrataRow_apart_56 (by decide) ?_
            exact eret_i K h hr hlk d_ErrataRow_apart_57
      · have h := if_t h q
        refine j_iconst (v := (-1)) K d_ErrataRow_apart_26 (by decide) ?_
        exact eret_i K h hr hlk d_ErrataRow_apart_27
def b_ErrataRow_pence_98 (N : Nat) : Nat → Int32 → Int32 → Nat → Int32 → Int32 → Int32 → Int32 → Int32 → Int32 → Cz → Option (Int32 × Cz)
  | 0, _, _, _, _, _, _, _, _, _, _ => none
  | n + 1, x1, x2, x3, x4, x5, x6, x7, x8, x9, κ => if x4 ≤ x9 then ck (isK κ x3 20) (ck (inb x2 (ln κ x3)) (ck (nz x5) (if x6 ≤ x8 then some (((x1 * (ai κ x3 x2.toNatClampNeg)) / x5) + 0, κ) else some (((x1 * (ai κ x3 x2.toNatClampNeg)) / x5) + 1, κ)))) else ck (isK κ x3 20) (ck (inb x9 (ln κ x3)) (ck (nz x5) (lt (x6 - ((x1 * (ai κ x3 x9.toNatClampNeg)) / x5)) (fun v25 => ck (inb x9 (ln κ x3)) (ck (nz x5) (lt ((x1 * (ai κ x3 x9.toNatClampNeg)) - (x1 * (ai κ x3 x9.toNatClampNeg)) / x5 * x5) (fun v28 => if x7 < v28 then lt (x8 + 1) (fun v29 => lt (x9 + 1) (fun v30 => b_ErrataRow_pence_98 N n x1 x2 x3 x4 x5 v25 x7 v29 v30 κ)) else if v28 = x7 then if x2 ≤ x9 then lt (x9 + 1) (fun v32 => b_ErrataRow_pence_98 N n x1 x2 x3 x4 x5 v25 x7 x8 v32 κ) else lt (x8 + 1) (fun v33 => lt (x9 + 1) (fun v34 => b_ErrataRow_pence_98 N n x1 x2 x3 x4 x5 v25 x7 v33 v34 κ)) else lt (x9 + 1) (fun v31 => b_ErrataRow_pence_98 N n x1 x2 x3 x4 x5 v25 x7 x8 v31 κ))))))))
set_option maxHeartbeats 4000000 in
set_option maxRecDepth 100000 in
theorem t_ErrataRow_pence_98 {p : Program} {l : Launch} {e : Env} {s : State} {m : MethodId} {args : Array Value} {below : List Frame} {meth : Method} {c : Code} {D : va_G} {θ : Tc} {A : Nat → Prop} (K : KE p s m args c c_ErrataRow_pence 11 "ErrataRow" y_ErrataRow_pence (some .int) D θ A) (hN : NX s) (hr : meth.sig.returnType = (some .int)) (hlk : meth.locks = false) (N : Nat) (ρ : Int32 × Cz) : ∀ (n : Nat) (x1 : Int32) (x2 : Int32) (x3 : Nat) (x4 : Int32) (x5 : Int32) (x6 : Int32) (x7 : Int32) (x8 : Int32) (x9 : Int32) (κ : Cz), b_ErrataRow_pence_98 N n x1 x2 x3 x4 x5 x6 x7 x8 x9 κ = some ρ → JE p l e (rmA 2 0 0) s m args below meth c D θ A 11 0 0 (QEi below args s D θ A 0 0 ρ) κ [(1, .int x1), (2, .int x2), (3, .ref x3), (4, .int x4), (5, .int x5), (6, .int x6), (7, .int x7), (8, .int x8), (9, .int x9)] [] 98 := by
  intro n
  induction n with
  | zero =>
    intro x1 x2 x3 x4 x5 x6 x7 x8 x9 κ h
    exact absurd h (by simp [b_ErrataRow_pence_98])
  | succ n ih =>
    intro x1 x2 x3 x4 x5 x6 x7 x8 x9 κ h
    rw [b_ErrataRow_pence_98] at h
    refine j_iload K 8 d_ErrataRow_pence_98 rfl ?_
    refine j_iload K 3 d_ErrataRow_pence_100 rfl ?_
    refine j_icmp_ge (tgt := 159) K d_ErrataRow_pence_102 (by decide) (fun q => ?_) (fun q => ?_)
    · have h := if_t h q
      refine j_iload_n K 0 d_ErrataRow_pence_159 rfl rfl ?_
      refine j_aload_n K 2 d_ErrataRow_pence_160 rfl rfl ?_
      refine j_iload_n K 1 d_ErrataRow_pence_161 rfl rfl ?_
      obtain ⟨q19, h⟩ := ck_e h
      obtain ⟨q20, h⟩ := ck_e h
      refine e_iald K q19 (inb_e q20) d_ErrataRow_pence_162 ?_
      refine j_imul K d_ErrataRow_pence_163 ?_
      refine j_iload K 4 d_ErrataRow_pence_164 rfl ?_
      obtain ⟨q21, h⟩ := ck_e h
      refine j_idiv K d_ErrataRow_pence_166 (nz_e q21) ?_
      refine j_iload K 7 d_ErrataRow_pence_167 rfl ?_
      refine j_iload K 5 d_ErrataRow_pence_169 rfl ?_
      refine j_icmp_ge (tgt := 178) K d_ErrataRow_pence_171 (by decide) (fun q => ?_) (fun q => ?_)
      · have h := if_t h q
        refine j_iconst (v := 0) K d_ErrataRow_pence_178 (by decide) ?_
        refine j_iadd K d_ErrataRow_pence_179 ?_
        exact eret_i K h hr hlk d_ErrataRow_pence_180
      · have h := if_f h q
        refine j_iconst (v := 1) K d_ErrataRow_pence_174 (by decide) ?_
        refine j_goto (tgt := 179) K d_ErrataRow_pence_175 (by decide) ?_
        refine j_iadd K d_ErrataRow_pence_179 ?_
        exact eret_i K h hr hlk d_ErrataRow_pence_180
    · have h := if_f h q
      refine j_iload K 5 d_ErrataRow_pence_105 rfl ?_
      refine j_iload_n K 0 d_ErrataRow_pence_107 rfl rfl ?_
      refine j_aload_n K 2 d_ErrataRow_pence_108 rfl rfl ?_
      refine j_iload K 8 d_ErrataRow_pence_109 rfl ?_
      obtain ⟨q22, h⟩ := ck_e h
      obtain ⟨q23, h⟩ := ck_e h
      refine e_iald K q22 (inb_e q23) d_ErrataRow_pence_111 ?_
      refine j_imul K d_ErrataRow_pence_112 ?_
      refine j_iload K 4 d_ErrataRow_pence_113 rfl ?_
      obtain ⟨q24, h⟩ := ck_e h
      refine j_idiv K d_ErrataRow_pence_115 (nz_e q24) ?_
      refine j_isub K d_ErrataRow_pence_116 ?_
      obtain ⟨v25, e25, h⟩ := lt_e h
      refine j_eqi e25 ?_
      refine j_istore (lv' := [(6, .int v25), (1, .int x1), (2, .int x2), (3, .ref x3), (4, .int x4), (5, .int x5), (7, .int x7), (8, .int x8), (9, .int x9)]) K d_ErrataRow_pence_117 (by decide) rfl ?_
      refine j_iload_n K 1 d_ErrataRow_pence_119 rfl rfl ?_
      refine j_aload_n K 3 d_ErrataRow_pence_120 rfl rfl ?_
      refine j_iload K 8 d_ErrataRow_pence_121 rfl ?_
      obtain ⟨q26, h⟩ := ck_e h
      refine e_iald K q22 (inb_e q26) d_ErrataRow_pence_123 ?_
      refine j_imul K d_ErrataRow_pence_124 ?_
      refine j_iload K 5 d_ErrataRow_pence_125 rfl ?_
      obtain ⟨q27, h⟩ := ck_e h
      refine j_irem K d_ErrataRow_pence_127 (nz_e q27) ?_
      obtain ⟨v28, e28, h⟩ := lt_e h
      refine j_eqi e28 ?_
      refine j_istore (lv' := [(10, .int v28), (6, .int v25), (1, .int x1), (2, .int x2), (3, .ref x3), (4, .int x4), (5, .int x5), (7, .int x7), (8, .int x8), (9, .int x9)]) K d_ErrataRow_pence_128 (by decide) rfl ?_
      refine j_iload K 0 d_ErrataRow_pence_130 rfl ?_
      refine j_iload K 7 d_ErrataRow_pence_132 rfl ?_
      refine j_icmp_gt (tgt := 150) K d_ErrataRow_pence_134 (by decide) (fun q => ?_) (fun q => ?_)
      · have h := if_t h q
        obtain ⟨v29, e29, h⟩ := lt_e h
        refine j_iinc (k := 8) (v := v29) (lv' := [(8, .int v29), (10, .int v28), (6, .int v25), (1, .int x1), (2, .int x2), (3, .ref x3), (4, .int x4), (5, .int x5), (7, .int x7), (9, .int x9)]) K d_ErrataRow_pence_150 rfl (by rw [e29]; rfl) (by decide) rfl ?_
        obtain ⟨v30, e30, h⟩ := lt_e h
        refine j_iinc (k := 9) (v := v30) (lv' := [(9, .int v30), (8, .int v29), (10, .int v28), (6, .int v25), (1, .int x1), (2, .int x2), (3, .ref x3), (4, .int x4), (5, .int x5), (7, .int x7)]) K d_ErrataRow_pence_153 rfl (by rw [e30]; rfl) (by decide) rfl ?_
        refine j_goto (tgt := 98) K d_ErrataRow_pence_156 (by decide) ?_
        refine j_sub [4, 5, 6, 7, 8, 3, 9, 1, 0] rfl ?_
        exact ih x1 x2 x3 x4 x5 v25 x7 v29 v30 κ h
      · have h := if_f h q
        refine j_iload K 0 d_ErrataRow_pence_137 rfl ?_
        refine j_iload K 7 d_ErrataRow_pence_139 rfl ?_
        refine j_icmp_ne (tgt := 153) K d_ErrataRow_pence_141 (by decide) (fun q => ?_) (fun q => ?_)
        · have h := if_f h q
          obtain ⟨v31, e31, h⟩ := lt_e h
          refine j_iinc (k := 9) (v := v31) (lv' := [(9, .int v31), (10, .int v28), (6, .int v25), (1, .int x1), (2, .int x2), (3, .ref x3), (4, .int x4), (5, .int x5), (7, .int x7), (8, .int x8)]) K d_ErrataRow_pence_153 rfl (by rw [e31]; rfl) (by decide) rfl ?_
          refine j_goto (tgt := 98) K d_ErrataRow_pence_156 (by decide) ?_
          refine j_sub [3, 4, 5, 6, 7, 2, 8, 9, 0] rfl ?_
          exact ih x1 x2 x3 x4 x5 v25 x7 x8 v31 κ h
        · have h := if_t h q
          refine j_iload K 9 d_ErrataRow_pence_144 rfl ?_
          refine j_iload_n K 3 d_ErrataRow_pence_146 rfl rfl ?_
          refine j_icmp_ge (tgt := 153) K d_ErrataRow_pence_147 (by decide) (fun q => ?_) (fun q => ?_)
          · have h := if_t h q
            obtain ⟨v32, e32, h⟩ := lt_e h
            refine j_iinc (k := 9) (v := v32) (lv' := [(9, .int v32), (10, .int v28), (6, .int v25), (1, .int x1), (2, .int x2), (3, .ref x3), (4, .int x4), (5, .int x5), (7, .int x7), (8, .int x8)]) K d_ErrataRow_pence_153 rfl (by rw [e32]; rfl) (by decide) rfl ?_
            refine j_goto (tgt := 98) K d_ErrataRow_pence_156 (by decide) ?_
            refine j_sub [3, 4, 5, 6, 7, 2, 8, 9, 0] rfl ?_
            exact ih x1 x2 x3 x4 x5 v25 x7 x8 v32 κ h
          · have h := if_f h q
            obtain ⟨v33, e33, h⟩ := lt_e h
            refine j_iinc (k := 8) (v := v33) (lv' := [(8, .int v33), (10, .int v28), (6, .int v25), (1, .int x1), (2, .int x2), (3, .ref x3), (4, .int x4), (5, .int x5), (7, .int x7), (9, .int x9)]) K d_ErrataRow_pence_150 rfl (by rw [e33]; rfl) (by decide) rfl ?_
            obtain ⟨v34, e34, h⟩ := lt_e h
            refine j_iinc (k := 9) (v := v34) (lv' := [(9, .int v34), (8, .int v33), (10, .int v28), (6, .int v25), (1, .int x1), (2, .int x2), (3, .ref x3), (4, .int x4), (5, .int x5), (7, .int x7)]) K d_ErrataRow_pence_153 rfl (by rw [e34]; rfl) (by decide) rfl ?_
            refine j_goto (tgt := 98) K d_ErrataRow_pence_156 (by decide) ?_
            refine j_sub [4, 5, 6, 7, 8, 3, 9, 1, 0] rfl ?_
            exact ih x1 x2 x3 x4 x5 v25 x7 v33 v34 κ h
def b_ErrataRow_pence_50 (N : Nat) : Nat → Int32 → Int32 → Nat → Int32 → Int32 → Int32 → Cz → Option (Int32 × Cz)
  | 0, _, _, _, _, _, _, _ => none
  | n + 1, x1, x2, x3, x4, x5, x6, κ => if x4 ≤ x6 then if x5 = 0 then some (0, κ) else ck (isK κ x3 20) (ck (inb x2 (ln κ x3)) (ck (nz x5) (lt ((x1 * (ai κ x3 x2.toNatClampNeg)) - (x1 * (ai κ x3 x2.toNatClampNeg)) / x5 * x5) (fun v18 => b_ErrataRow_pence_98 N N x1 x2 x3 x4 x5 x1 v18 0 0 κ)))) else ck (isK κ x3 20) (ck (inb x6 (ln κ x3)) (lt (x5 + (ai κ x3 x6.toNatClampNeg)) (fun v37 => lt (x6 + 1) (fun v38 => b_ErrataRow_pence_50 N n x1 x2 x3 x4 v37 v38 κ))))
set_option maxHeartbeats 4000000 in
set_option maxRecDepth 100000 in
theorem t_ErrataRow_pence_50 {p : Program} {l : Launch} {e : Env} {s : State} {m : MethodId} {args : Array Value} {below : List Frame} {meth : Method} {c : Code} {D : va_G} {θ : Tc} {A : Nat → Prop} (K : KE p s m args c c_ErrataRow_pence 11 "ErrataRow" y_ErrataRow_pence (some .int) D θ A) (hN : NX s) (hr : meth.sig.returnType = (some .int)) (hlk : meth.locks = false) (N : Nat) (ρ : Int32 × Cz) : ∀ (n : Nat) (x1 : Int32) (x2 : Int32) (x3 : Nat) (x4 : Int32) (x5 : Int32) (x6 : Int32) (κ : Cz), b_ErrataRow_pence_50 N n x1 x2 x3 x4 x5 x6 κ = some ρ → JE p l e (rmA 2 0 0) s m args below meth c D θ A 11 0 0 (QEi below args s D θ A 0 0 ρ) κ [(1, .int x1), (2, .int x2), (3, .ref x3), (4, .int x4), (5, .int x5), (6, .int x6)] [] 50 := by
  intro n
  induction n with
  | zero =>
    intro x1 x2 x3 x4 x5 x6 κ h
    exact absurd h (by simp [b_ErrataRow_pence_50])
  | succ n ih =>
    intro x1 x2 x3 x4 x5 x6 κ h
    rw [b_ErrataRow_pence_50] at h
    refine j_iload K 5 d_ErrataRow_pence_50 rfl ?_
    refine j_iload K 3 d_ErrataRow_pence_52 rfl ?_
    refine j_icmp_ge (tgt := 72) K d_ErrataRow_pence_54 (by decide) (fun q => ?_) (fun q => ?_)
    · have h := if_t h q
      refine j_iload K 4 d_ErrataRow_pence_72 rfl ?_
      refine j_if_ne (tgt := 79) K d_ErrataRow_pence_74 (by decide) (fun q => ?_) (fun q => ?_)
      · have h := if_f h q
        refine j_iload_n K 0 d_ErrataRow_pence_79 rfl rfl ?_
        refine j_istore (lv' := [(6, .int x1), (1, .int x1), (2, .int x2), (3, .ref x3), (4, .int x4), (5, .int x5)]) K d_ErrataRow_pence_80 (by decide) rfl ?_
        refine j_iload_n K 1 d_ErrataRow_pence_82 rfl rfl ?_
        refine j_aload_n K 3 d_ErrataRow_pence_83 rfl rfl ?_
        refine j_iload_n K 2 d_ErrataRow_pence_84 rfl rfl ?_
        obtain ⟨q15, h⟩ := ck_e h
        obtain ⟨q16, h⟩ := ck_e h
        refine e_iald K q15 (inb_e q16) d_ErrataRow_pence_85 ?_
        refine j_imul K d_ErrataRow_pence_86 ?_
        refine j_iload K 5 d_ErrataRow_pence_87 rfl ?_
        obtain ⟨q17, h⟩ := ck_e h
        refine j_irem K d_ErrataRow_pence_89 (nz_e q17) ?_
        obtain ⟨v18, e18, h⟩ := lt_e h
        refine j_eqi e18 ?_
        refine j_istore (lv' := [(7, .int v18), (6, .int x1), (1, .int x1), (2, .int x2), (3, .ref x3), (4, .int x4), (5, .int x5)]) K d_ErrataRow_pence_90 (by decide) rfl ?_
        refine j_iconst (v := 0) K d_ErrataRow_pence_92 (by decide) ?_
        refine j_istore (lv' := [(8, .int 0), (7, .int v18), (6, .int x1), (1, .int x1), (2, .int x2), (3, .ref x3), (4, .int x4), (5, .int x5)]) K d_ErrataRow_pence_93 (by decide) rfl ?_
        refine j_iconst (v := 0) K d_ErrataRow_pence_95 (by decide) ?_
        refine j_istore (lv' := [(9, .int 0), (8, .int 0), (7, .int v18), (6, .int x1), (1, .int x1), (2, .int x2), (3, .ref x3), (4, .int x4), (5, .int x5)]) K d_ErrataRow_pence_96 (by decide) rfl ?_
        refine j_sub [4, 5, 6, 7, 8, 3, 2, 1, 0] rfl ?_
        exact t_ErrataRow_pence_98 K hN hr hlk N ρ N x1 x2 x3 x4 x5 x1 v18 0 0 κ h
      · have h := if_t h q
        refine j_iconst (v := 0) K d_ErrataRow_pence_77 (by decide) ?_
        exact eret_i K h hr hlk d_ErrataRow_pence_78
    · have h := if_f h q
      refine j_iload K 4 d_ErrataRow_pence_57 rfl ?_
      refine j_aload_n K 2 d_ErrataRow_pence_59 rfl rfl ?_
      refine j_iload K 5 d_ErrataRow_pence_60 rfl ?_
      obtain ⟨q35, h⟩ := ck_e h
      obtain ⟨q36, h⟩ := ck_e h
      refine e_iald K q35 (inb_e q36) d_ErrataRow_pence_62 ?_
      refine j_iadd K d_ErrataRow_pence_63 ?_
      obtain ⟨v37, e37, h⟩ := lt_e h
      refine j_eqi e37 ?_
      refine j_istore (lv' := [(5, .int v37), (1, .int x1), (2, .int x2), (3, .ref x3), (4, .int x4), (6, .int x6)]) K d_ErrataRow_pence_64 (by decide) rfl ?_
      obtain ⟨v38, e38, h⟩ := lt_e h
      refine j_iinc (k := 5) (v := v38) (lv' := [(6, .int v38), (5, .int v37), (1, .int x1), (2, .int x2), (3, .ref x3), (4, .int x4)]) K d_ErrataRow_pence_66 rfl (by rw [e38]; rfl) (by decide) rfl ?_
      refine j_goto (tgt := 50) K d_ErrataRow_pence_69 (by decide) ?_
      refine j_sub [2, 3, 4, 5, 1, 0] rfl ?_
      exact ih x1 x2 x3 x4 v37 v38 κ h
def p_ErrataRow_pence (N : Nat) (this : Nat) (a1 : Int32) (a2 : Int32) (κ : Cz) : Option (Int32 × Cz) := bd (p_ErrataRow_within N a1 0 9999 κ) (fun r1 κ1 => if r1 = 0 then some ((-1), κ1) else ck (isK κ1 this 11) (bd (p_ErrataRow_isLetter N this a2 κ1) (fun r2 κ2 => if r2 = 0 then some ((-1), κ2) else ck (isK κ2 this 11) (bo (fr κ2 this 7) (fun o5 => ck (isK κ2 o5 10) (bo (fr κ2 o5 1) (fun o7 => ck (isK κ2 o7 8) (bo (fr κ2 o7 1) (fun o9 => bo (fr κ2 this 7) (fun o10 => ck (isK κ2 o10 10) (bo (fr κ2 o10 0) (fun o12 => ck (isK κ2 o12 0) (lt (fi κ2 o12 2) (fun v14 => b_ErrataRow_pence_50 N N a1 a2 o9 v14 0 0 κ2))))))))))))))
set_option maxHeartbeats 4000000 in
set_option maxRecDepth 100000 in
theorem c_ErrataRow_pence_ok (l : Launch) (D : va_G) (θ : Tc) (N : Nat) (this : Nat) (a1 : Int32) (a2 : Int32) (κ : Cz) (ρ : Int32 × Cz) (h : p_ErrataRow_pence N this a1 a2 κ = some ρ) : CEi l D θ y_ErrataRow_pence c_ErrataRow_pence 11 (some .int) 2 0 0 [.ref this, .int a1, .int a2] κ ρ := by
  intro sz
  refine e_met l [.ref this, .int a1, .int a2] (by decide +kernel) (Nat.le_of_ble_eq_true rfl) ?_
  intro p e s m args below meth c K hN hr hlk hnm hs
  generalize va_A (wE θ κ) sz = A at K ⊢
  have K : KE p s m args c c_ErrataRow_pence 11 "ErrataRow" y_ErrataRow_pence (some .int) D θ A := K
  show JE p l e (rmA 2 0 0) s m args below meth c D θ A 11 0 0 (QEi below args s D θ A 0 0 ρ) κ [(0, .ref this), (1, .int a1), (2, .int a2)] [] 0
  unfold p_ErrataRow_pence at h
  refine j_iload_n K 1 d_ErrataRow_pence_0 rfl rfl ?_
  refine j_iconst (v := 0) K d_ErrataRow_pence_1 (by decide) ?_
  refine j_sipush (v := 9999) K d_ErrataRow_pence_2 (by decide) ?_
  obtain ⟨r1, κ1, e1, h⟩ := bd_e h
  refine ecallS_i K hN (c_ErrataRow_within_ok l D θ N a1 0 9999 κ _ e1) eG_ErrataRow_166 eh_ErrataRow_within (by decide) (rmA_ok (by decide) (by decide)) rfl (st := []) (Nat.le_of_ble_eq_true rfl) rfl d_ErrataRow_pence_5 ⟨Nat.le_of_ble_eq_true rfl, Nat.le_of_ble_eq_true rfl⟩ ?_
  refine j_if_eq (tgt := 19) K d_ErrataRow_pence_8 (by decide) (fun q => ?_) (fun q => ?_)
  · have h := if_t h q
    refine j_iconst (v := (-1)) K d_ErrataRow_pence_19 (by decide) ?_
    exact eret_i K h hr hlk d_ErrataRow_pence_20
  · have h := if_f h q
    refine j_aload_n K 0 d_ErrataRow_pence_11 rfl rfl ?_
    refine j_iload_n K 2 d_ErrataRow_pence_12 rfl rfl ?_
    obtain ⟨q3, h⟩ := ck_e h
    obtain ⟨r2, κ2, e2, h⟩ := bd_e h
    refine ecallV_i K hN (c_ErrataRow_isLetter_ok l D θ N this a2 κ1 _ e2) eG_ErrataRow_141 eh_ErrataRow_isLetter (by decide) (rmA_ok (by decide) (by decide)) rfl q3 (by decide) rfl (st := []) (Nat.le_of_ble_eq_true rfl) rfl d_ErrataRow_pence_13 ⟨Nat.le_of_ble_eq_true rfl, Nat.le_of_ble_eq_true rfl⟩ ?_
    refine j_if_ne (tgt := 21) K d_ErrataRow_pence_16 (by decide) (fun q => ?_) (fun q => ?_)
    · have h := if_f h q
      refine j_aload_n K 0 d_ErrataRow_pence_21 rfl rfl ?_
      obtain ⟨q4, h⟩ := ck_e h
      refine eg_ErrataRow_world K ef_ErrataRow_45 q4 d_ErrataRow_pence_22 ?_
      obtain ⟨o5, e5, h⟩ := bo_e h
      refine j_eqq e5 ?_
      obtain ⟨q6, h⟩ := ck_e h
      refine eg_World_now K ef_ErrataRow_145 q6 d_ErrataRow_pence_25 ?_
      obtain ⟨o7, e7, h⟩ := bo_e h
      refine j_eqq e7 ?_
      obtain ⟨q8, h⟩ := ck_e h
      refine eg_State_paid K ef_ErrataRow_154 q8 d_ErrataRow_pence_28 ?_
      obtain ⟨o9, e9, h⟩ := bo_e h
      refine j_eqq e9 ?_
      refine j_astore_n (lv' := [(3, .ref o9), (0, .ref this), (1, .int a1), (2, .int a2)]) K d_ErrataRow_pence_31 rfl (by decide) rfl ?_
      refine j_aload_n K 1 d_ErrataRow_pence_32 rfl rfl ?_
      refine eg_ErrataRow_world K ef_ErrataRow_45 q4 d_ErrataRow_pence_33 ?_
      obtain ⟨o10, e10, h⟩ := bo_e h
      refine j_eqq e10 ?_
      obtain ⟨q11, h⟩ := ck_e h
      refine eg_World_book K ef_ErrataRow_62 q11 d_ErrataRow_pence_36 ?_
      obtain ⟨o12, e12, h⟩ := bo_e h
      refine j_eqq e12 ?_
      obtain ⟨q13, h⟩ := ck_e h
      refine eg_Book_letters K ef_ErrataRow_123 q13 d_ErrataRow_pence_39 ?_
      obtain ⟨v14, e14, h⟩ := lt_e h
      refine j_eqi e14 ?_
      refine j_istore (lv' := [(4, .int v14), (3, .ref o9), (0, .ref this), (1, .int a1), (2, .int a2)]) K d_ErrataRow_pence_42 (by decide) rfl ?_
      refine j_iconst (v := 0) K d_ErrataRow_pence_44 (by decide) ?_
      refine j_istore (lv' := [(5, .int 0), (4, .int v14), (3, .ref o9), (0, .ref this), (1, .int a1), (2, .int a2)]) K d_ErrataRow_pence_45 (by decide) rfl ?_
      refine j_iconst (v := 0) K d_ErrataRow_pence_47 (by decide) ?_
      refine j_istore (lv' := [(6, .int 0), (5, .int 0), (4, .int v14), (3, .ref o9), (0, .ref this), (1, .int a1), (2, .int a2)]) K d_ErrataRow_pence_48 (by decide) rfl ?_
      refine j_sub [5, 6, 3, 2, 1, 0] rfl ?_
      exact t_ErrataRow_pence_50 K hN hr hlk N ρ N a1 a2 o9 v14 0 0 κ2 h
    · have h := if_t h q
      refine j_iconst (v := (-1)) K d_ErrataRow_pence_19 (by decide) ?_
      exact eret_i K h hr hlk d_ErrataRow_pence_20
def p_ErrataRow_note (N : Nat) (this : Nat) (a1 : Int32) (a2 : Int32) (a3 : Int32) (κ : Cz) : Option (Int32 × Cz) := ck (isK κ this 11) (bo (fr κ this 7) (fun o2 => ck (isK κ o2 10) (bo (fr κ o2 2) (fun o4 => if a1 = (-1) then ck (isK κ o4 3) (lt (sfi o4 0 0 κ) (fun κ13 => some (0, κ13))) else bd (p_ErrataRow_within N a1 0 60 κ) (fun r5 κ5 => if r5 = 0 then some ((-2), κ5) else ck (isK κ5 this 11) (bd (p_ErrataRow_isLetter N this a2 κ5) (fun r6 κ6 => if r6 = 0 then some ((-2), κ6) else bd (p_ErrataRow_isPut N a3 κ6) (fun r8 κ8 => if r8 = 0 then some ((-2), κ8) else ck (isK κ8 o4 3) (if (fi κ8 o4 0) < 10 then bo (p_Notes_add N o4 a1 a2 a3 κ8) (fun κ10 => ck (isK κ10 o4 3) (some (fi κ10 o4 0, κ10))) else some ((-2), κ8))))))))))
set_option maxHeartbeats 4000000 in
set_option maxRecDepth 100000 in
theorem c_ErrataRow_note_ok (l : Launch) (D : va_G) (θ : Tc) (N : Nat) (this : Nat) (a1 : Int32) (a2 : Int32) (a3 : Int32) (κ : Cz) (ρ : Int32 × Cz) (h : p_ErrataRow_note N this a1 a2 a3 κ = some ρ) : CEi l D θ y_ErrataRow_note c_ErrataRow_note 5 (some .int) 2 0 0 [.ref this, .int a1, .int a2, .int a3] κ ρ := by
  intro sz
  refine e_met l [.ref this, .int a1, .int a2, .int a3] (by decide +kernel) (Nat.le_of_ble_eq_true rfl) ?_
  intro p e s m args below meth c K hN hr hlk hnm hs
  generalize va_A (wE θ κ) sz = A at K ⊢
  have K : KE p s m args c c_ErrataRow_note 5 "ErrataRow" y_ErrataRow_note (some .int) D θ A := K
  show JE p l e (rmA 2 0 0) s m args below meth c D θ A 5 0 0 (QEi below args s D θ A 0 0 ρ) κ [(0, .ref this), (1, .int a1), (2, .int a2), (3, .int a3)] [] 0
  unfold p_ErrataRow_note at h
  refine j_aload_n K 0 d_ErrataRow_note_0 rfl rfl ?_
  obtain ⟨q1, h⟩ := ck_e h
  refine eg_ErrataRow_world K ef_ErrataRow_45 q1 d_ErrataRow_note_1 ?_
  obtain ⟨o2, e2, h⟩ := bo_e h
  refine j_eqq e2 ?_
  obtain ⟨q3, h⟩ := ck_e h
  refine eg_World_notes K ef_ErrataRow_195 q3 d_ErrataRow_note_4 ?_
  obtain ⟨o4, e4, h⟩ := bo_e h
  refine j_eqq e4 ?_
  refine j_astore (lv' := [(4, .ref o4), (0, .ref this), (1, .int a1), (2, .int a2), (3, .int a3)]) K d_ErrataRow_note_7 (by decide) rfl ?_
  refine j_iload_n K 2 d_ErrataRow_note_9 rfl rfl ?_
  refine j_iconst (v := (-1)) K d_ErrataRow_note_10 (by decide) ?_
  refine j_icmp_ne (tgt := 22) K d_ErrataRow_note_11 (by decide) (fun q => ?_) (fun q => ?_)
  · have h := if_f h q
    refine j_iload_n K 2 d_ErrataRow_note_22 rfl rfl ?_
    refine j_iconst (v := 0) K d_ErrataRow_note_23 (by decide) ?_
    refine j_bipush (v := 60) K d_ErrataRow_note_24 (by decide) ?_
    obtain ⟨r5, κ5, e5, h⟩ := bd_e h
    refine ecallS_i K hN (c_ErrataRow_within_ok l D θ N a1 0 60 κ _ e5) eG_ErrataRow_166 eh_ErrataRow_within (by decide) (rmA_ok (by decide) (by decide)) rfl (st := []) (Nat.le_of_ble_eq_true rfl) rfl d_ErrataRow_note_26 ⟨Nat.le_of_ble_eq_true rfl, Nat.le_of_ble_eq_true rfl⟩ ?_
    refine j_if_eq (tgt := 47) K d_ErrataRow_note_29 (by decide) (fun q => ?_) (fun q => ?_)
    · have h := if_t h q
      refine j_bipush (v := (-2)) K d_ErrataRow_note_47 (by decide) ?_
      exact eret_i K h hr hlk d_ErrataRow_note_49
    · have h := if_f h q
      refine j_aload_n K 1 d_ErrataRow_note_32 rfl rfl ?_
      refine j_iload_n K 3 d_ErrataRow_note_33 rfl rfl ?_
      obtain ⟨q7, h⟩ := ck_e h
      obtain ⟨r6, κ6, e6, h⟩ := bd_e h
      refine ecallV_i K hN (c_ErrataRow_isLetter_ok l D θ N this a2 κ5 _ e6) eG_ErrataRow_141 eh_ErrataRow_isLetter (by decide) (rmA_ok (by decide) (by decide)) rfl q7 (by decide) rfl (st := []) (Nat.le_of_ble_eq_true rfl) rfl d_ErrataRow_note_34 ⟨Nat.le_of_ble_eq_true rfl, Nat.le_of_ble_eq_true rfl⟩ ?_
      refine j_if_eq (tgt := 47) K d_ErrataRow_note_37 (by decide) (fun q => ?_) (fun q => ?_)
      · have h := if_t h q
        refine j_bipush (v := (-2)) K d_ErrataRow_note_47 (by decide) ?_
        exact eret_i K h hr hlk d_ErrataRow_note_49
      · have h := if_f h q
        refine j_iload_n K 4 d_ErrataRow_note_40 rfl rfl ?_
        obtain ⟨r8, κ8, e8, h⟩ := bd_e h
        refine ecallS_i K hN (c_ErrataRow_isPut_ok l D θ N a3 κ6 _ e8) eG_ErrataRow_218 eh_ErrataRow_isPut (by decide) (rmA_ok (by decide) (by decide)) rfl (st := []) (Nat.le_of_ble_eq_true rfl) rfl d_ErrataRow_note_41 ⟨Nat.le_of_ble_eq_true rfl, Nat.le_of_ble_eq_true rfl⟩ ?_
        refine j_if_ne (tgt := 50) K d_ErrataRow_note_44 (by decide) (fun q => ?_) (fun q => ?_)
        · have h := if_f h q
          refine j_aload K 0 d_ErrataRow_note_50 rfl ?_
          obtain ⟨q9, h⟩ := ck_e h
          refine eg_Notes_size K ef_ErrataRow_199 q9 d_ErrataRow_note_52 ?_
          refine j_bipush (v := 10) K d_ErrataRow_note_55 (by decide) ?_
          refine j_icmp_lt (tgt := 63) K d_ErrataRow_note_57 (by decide) (fun q => ?_) (fun q => ?_)
          · have h := if_t h q
            refine j_aload K 0 d_ErrataRow_note_63 rfl ?_
            refine j_iload_n K 2 d_ErrataRow_note_65 rfl rfl ?_
            refine j_iload_n K 3 d_ErrataRow_note_66 rfl rfl ?_
            refine j_iload_n K 4 d_ErrataRow_note_67 rfl rfl ?_
            obtain ⟨κ10, e10, h⟩ := bo_e h
            refine ecallV_v K hN (c_Notes_add_ok l D θ N o4 a1 a2 a3 κ8 _ e10) eG_ErrataRow_323 eh_Notes_add (by decide) (rmA_ok (by decide) (by decide)) rfl q9 (by decide) rfl (st := []) (Nat.le_of_ble_eq_true rfl) rfl d_ErrataRow_note_68 ⟨Nat.le_of_ble_eq_true rfl, Nat.le_of_ble_eq_true rfl⟩ ?_
            refine j_aload K 0 d_ErrataRow_note_71 rfl ?_
            obtain ⟨q11, h⟩ := ck_e h
            refine eg_Notes_size K ef_ErrataRow_199 q11 d_ErrataRow_note_73 ?_
            exact eret_i K h hr hlk d_ErrataRow_note_76
          · have h := if_f h q
            refine j_bipush (v := (-2)) K d_ErrataRow_note_60 (by decide) ?_
            exact eret_i K h hr hlk d_ErrataRow_note_62
        · have h := if_t h q
          refine j_bipush (v := (-2)) K d_ErrataRow_note_47 (by decide) ?_
          exact eret_i K h hr hlk d_ErrataRow_note_49
  · have h := if_t h q
    refine j_aload K 0 d_ErrataRow_note_14 rfl ?_
    refine j_iconst (v := 0) K d_ErrataRow_note_16 (by decide) ?_
    obtain ⟨q12, h⟩ := ck_e h
    obtain ⟨κ13, e13, h⟩ := lt_e h
    refine ep_Notes_size K ef_ErrataRow_199 q12 d_ErrataRow_note_17 e13 ?_
    refine j_iconst (v := 0) K d_ErrataRow_note_20 (by decide) ?_
    exact eret_i K h hr hlk d_ErrataRow_note_21
