def p_ErrataRow_twice (N : Nat) (this : Nat) (a1 : Int32) (κ : Cz) : Option (Int32 × Cz) := ck (isK κ this 11) (bo (fr κ this 7) (fun o2 => ck (isK κ o2 10) (bo (fr κ o2 0) (fun o4 => ck (isK κ o4 0) (if (fi κ o4 0) = 0 then some ((-1), κ) else bd (p_ErrataRow_within N a1 0 2 κ) (fun r6 κ6 => if r6 = 0 then some ((-1), κ6) else ck (isK κ6 this 11) (bo (p_ErrataRow_findTwice N this κ6) (fun κ7 => ck (isK κ7 this 11) (bo (fr κ7 this 13) (fun o10 => ck (isK κ7 o10 20) (ck (inb a1 (ln κ7 o10)) (some (ai κ7 o10 a1.toNatClampNeg, κ7)))))))))))))
set_option maxHeartbeats 4000000 in
set_option maxRecDepth 100000 in
theorem c_ErrataRow_twice_ok (l : Launch) (D : va_G) (θ : Tc) (N : Nat) (this : Nat) (a1 : Int32) (κ : Cz) (ρ : Int32 × Cz) (h : p_ErrataRow_twice N this a1 κ = some ρ) : CEi l D θ y_ErrataRow_twice c_ErrataRow_twice 2 (some .int) 3 0 0 [.ref this, .int a1] κ ρ := by
  intro sz
  refine e_met l [.ref this, .int a1] (by decide +kernel) (Nat.le_of_ble_eq_true rfl) ?_
  intro p e s m args below meth c K hN hr hlk hnm hs
  generalize va_A (wE θ κ) sz = A at K ⊢
  have K : KE p s m args c c_ErrataRow_twice 2 "ErrataRow" y_ErrataRow_twice (some .int) D θ A := K
  show JE p l e (rmA 3 0 0) s m args below meth c D θ A 2 0 0 (QEi below args s D θ A 0 0 ρ) κ [(0, .ref this), (1, .int a1)] [] 0
  unfold p_ErrataRow_twice at h
  refine j_aload_n K 0 d_ErrataRow_twice_0 rfl rfl ?_
  obtain ⟨q1, h⟩ := ck_e h
  refine eg_ErrataRow_world K ef_ErrataRow_45 q1 d_ErrataRow_twice_1 ?_
  obtain ⟨o2, e2, h⟩ := bo_e h
  refine j_eqq e2 ?_
  obtain ⟨q3, h⟩ := ck_e h
  refine eg_World_book K ef_ErrataRow_62 q3 d_ErrataRow_twice_4 ?_
  obtain ⟨o4, e4, h⟩ := bo_e h
  refine j_eqq e4 ?_
  obtain ⟨q5, h⟩ := ck_e h
  refine eg_Book_told K ef_ErrataRow_160 q5 d_ErrataRow_twice_7 ?_
  refine j_if_eq (tgt := 22) K d_ErrataRow_twice_10 (by decide) (fun q => ?_) (fun q => ?_)
  · have h := if_t h q
    refine j_iconst (v := (-1)) K d_ErrataRow_twice_22 (by decide) ?_
    exact eret_i K h hr hlk d_ErrataRow_twice_23
  · have h := if_f h q
    refine j_iload_n K 1 d_ErrataRow_twice_13 rfl rfl ?_
    refine j_iconst (v := 0) K d_ErrataRow_twice_14 (by decide) ?_
    refine j_iconst (v := 2) K d_ErrataRow_twice_15 (by decide) ?_
    obtain ⟨r6, κ6, e6, h⟩ := bd_e h
    refine ecallS_i K hN (c_ErrataRow_within_ok l D θ N a1 0 2 κ _ e6) eG_ErrataRow_166 eh_ErrataRow_within (by decide) (rmA_ok (by decide) (by decide)) rfl (st := []) (Nat.le_of_ble_eq_true rfl) rfl d_ErrataRow_twice_16 ⟨Nat.le_of_ble_eq_true rfl, Nat.le_of_ble_eq_true rfl⟩ ?_
    refine j_if_ne (tgt := 24) K d_ErrataRow_twice_19 (by decide) (fun q => ?_) (fun q => ?_)
    · have h := if_f h q
      refine j_aload_n K 0 d_ErrataRow_twice_24 rfl rfl ?_
      obtain ⟨q8, h⟩ := ck_e h
      obtain ⟨κ7, e7, h⟩ := bo_e h
      refine ecallV_v K hN (c_ErrataRow_findTwice_ok l D θ N this κ6 _ e7) eG_ErrataRow_287 eh_ErrataRow_findTwice (by decide) (rmA_ok (by decide) (by decide)) rfl q8 (by decide) rfl (st := []) (Nat.le_of_ble_eq_true rfl) rfl d_ErrataRow_twice_25 ⟨Nat.le_of_ble_eq_true rfl, Nat.le_of_ble_eq_true rfl⟩ ?_
      refine j_aload_n K 0 d_ErrataRow_twice_28 rfl rfl ?_
      obtain ⟨q9, h⟩ := ck_e h
      refine eg_ErrataRow_found K ef_ErrataRow_89 q9 d_ErrataRow_twice_29 ?_
      obtain ⟨o10, e10, h⟩ := bo_e h
      refine j_eqq e10 ?_
      refine j_iload_n K 1 d_ErrataRow_twice_32 rfl rfl ?_
      obtain ⟨q11, h⟩ := ck_e h
      obtain ⟨q12, h⟩ := ck_e h
      refine e_iald K q11 (inb_e q12) d_ErrataRow_twice_33 ?_
      exact eret_i K h hr hlk d_ErrataRow_twice_34
    · have h := if_t h q
      refine j_iconst (v := (-1)) K d_ErrataRow_twice_22 (by decide) ?_
      exact eret_i K h hr hlk d_ErrataRow_twice_23
def p_ErrataRow_startByRule (N : Nat) (this : Nat) (a1 : Int32) (κ : Cz) : Option (Cz) := ck (isK κ this 11) (bo (p_ErrataRow_readyPress N this a1 κ) (fun κ1 => ck (isK κ1 this 11) (bo (fr κ1 this 12) (fun o4 => bo (fr κ1 this 7) (fun o5 => ck (isK κ1 o5 10) (bo (fr κ1 o5 0) (fun o7 => ck (isK κ1 o7 0) (bo (fr κ1 o7 7) (fun o9 => ck (isK κ1 o4 8) (bo (p_State_copyFrom N o4 o9 κ1) (fun κ10 => some κ10)))))))))))
set_option maxHeartbeats 4000000 in
set_option maxRecDepth 100000 in
theorem c_ErrataRow_startByRule_ok (l : Launch) (D : va_G) (θ : Tc) (N : Nat) (this : Nat) (a1 : Int32) (κ : Cz) (ρ : Cz) (h : p_ErrataRow_startByRule N this a1 κ = some ρ) : CEv l D θ y_ErrataRow_startByRule c_ErrataRow_startByRule 2 none 3 0 0 [.ref this, .int a1] κ ρ := by
  intro sz
  refine e_met l [.ref this, .int a1] (by decide +kernel) (Nat.le_of_ble_eq_true rfl) ?_
  intro p e s m args below meth c K hN hr hlk hnm hs
  generalize va_A (wE θ κ) sz = A at K ⊢
  have K : KE p s m args c c_ErrataRow_startByRule 2 "ErrataRow" y_ErrataRow_startByRule none D θ A := K
  show JE p l e (rmA 3 0 0) s m args below meth c D θ A 2 0 0 (QEv below args s D θ A 0 0 ρ) κ [(0, .ref this), (1, .int a1)] [] 0
  unfold p_ErrataRow_startByRule at h
  refine j_aload_n K 0 d_ErrataRow_startByRule_0 rfl rfl ?_
  refine j_iload_n K 1 d_ErrataRow_startByRule_1 rfl rfl ?_
  obtain ⟨q2, h⟩ := ck_e h
  obtain ⟨κ1, e1, h⟩ := bo_e h
  refine ecallV_v K hN (c_ErrataRow_readyPress_ok l D θ N this a1 κ _ e1) eG_ErrataRow_212 eh_ErrataRow_readyPress (by decide) (rmA_ok (by decide) (by decide)) rfl q2 (by decide) rfl (st := []) (Nat.le_of_ble_eq_true rfl) rfl d_ErrataRow_startByRule_2 ⟨Nat.le_of_ble_eq_true rfl, Nat.le_of_ble_eq_true rfl⟩ ?_
  refine j_aload_n K 0 d_ErrataRow_startByRule_5 rfl rfl ?_
  obtain ⟨q3, h⟩ := ck_e h
  refine eg_ErrataRow_trial K ef_ErrataRow_85 q3 d_ErrataRow_startByRule_6 ?_
  obtain ⟨o4, e4, h⟩ := bo_e h
  refine j_eqq e4 ?_
  refine j_aload_n K 0 d_ErrataRow_startByRule_9 rfl rfl ?_
  refine eg_ErrataRow_world K ef_ErrataRow_45 q3 d_ErrataRow_startByRule_10 ?_
  obtain ⟨o5, e5, h⟩ := bo_e h
  refine j_eqq e5 ?_
  obtain ⟨q6, h⟩ := ck_e h
  refine eg_World_book K ef_ErrataRow_62 q6 d_ErrataRow_startByRule_13 ?_
  obtain ⟨o7, e7, h⟩ := bo_e h
  refine j_eqq e7 ?_
  obtain ⟨q8, h⟩ := ck_e h
  refine eg_Book_begin K ef_ErrataRow_326 q8 d_ErrataRow_startByRule_16 ?_
  obtain ⟨o9, e9, h⟩ := bo_e h
  refine j_eqq e9 ?_
  obtain ⟨q11, h⟩ := ck_e h
  obtain ⟨κ10, e10, h⟩ := bo_e h
  refine ecallV_v K hN (c_State_copyFrom_ok l D θ N o4 o9 κ1 _ e10) eG_ErrataRow_249 eh_State_copyFrom (by decide) (rmA_ok (by decide) (by decide)) rfl q11 (by decide) rfl (st := []) (Nat.le_of_ble_eq_true rfl) rfl d_ErrataRow_startByRule_19 ⟨Nat.le_of_ble_eq_true rfl, Nat.le_of_ble_eq_true rfl⟩ ?_
  exact eret_v K h hr hlk d_ErrataRow_startByRule_22
def b_BookReader_readClause_133 (N : Nat) (x0 : Nat) (x2 : Int32) (x3 : Int32) (x5 : Int32) (κ : Cz) : Option (Cz) := ck (isK κ x0 1) (bo (fr κ x0 0) (fun o26 => ck (isK κ o26 9) (bo (p_Tokens_goOn N o26 κ) (fun κ27 => if x2 = 0 then if x5 = 0 then ck (isK κ27 x0 1) (bo (p_BookReader_readPuts N x0 x3 κ27) (fun κ29 => some κ29)) else ck (isK κ27 x0 1) (bo (p_BookReader_readHangs N x0 κ27) (fun κ31 => some κ31)) else ck (isK κ27 x0 1) (bo (p_BookReader_readPay N x0 κ27) (fun κ33 => some κ33))))))
set_option maxHeartbeats 4000000 in
set_option maxRecDepth 100000 in
theorem t_BookReader_readClause_133 {p : Program} {l : Launch} {e : Env} {s : State} {m : MethodId} {args : Array Value} {below : List Frame} {meth : Method} {c : Code} {D : va_G} {θ : Tc} {A : Nat → Prop} (K : KE p s m args c c_BookReader_readClause 6 "ErrataRow$BookReader" y_BookReader_readClause none D θ A) (hN : NX s) (hr : meth.sig.returnType = none) (hlk : meth.locks = false) (N : Nat) (ρ : Cz) (x0 : Nat) (x2 : Int32) (x3 : Int32) (x5 : Int32) (κ : Cz) (h : b_BookReader_readClause_133 N x0 x2 x3 x5 κ = some ρ) : JE p l e (rmA 4 0 0) s m args below meth c D θ A 6 0 0 (QEv below args s D θ A 0 0 ρ) κ [(0, .ref x0), (2, .int x2), (3, .int x3), (5, .int x5)] [] 133 := by
  unfold b_BookReader_readClause_133 at h
  refine j_aload_n K 0 d_BookReader_readClause_133 rfl rfl ?_
  obtain ⟨q25, h⟩ := ck_e h
  refine eg_BookReader_tokens K ef_BookReader_18 q25 d_BookReader_readClause_134 ?_
  obtain ⟨o26, e26, h⟩ := bo_e h
  refine j_eqq e26 ?_
  obtain ⟨q28, h⟩ := ck_e h
  obtain ⟨κ27, e27, h⟩ := bo_e h
  refine ecallV_v K hN (c_Tokens_goOn_ok l D θ N o26 κ _ e27) eG_BookReader_57 eh_Tokens_goOn (by decide) (rmA_ok (by decide) (by decide)) rfl q28 (by decide) rfl (st := []) (Nat.le_of_ble_eq_true rfl) rfl d_BookReader_readClause_137 ⟨Nat.le_of_ble_eq_true rfl, Nat.le_of_ble_eq_true rfl⟩ ?_
  refine j_iload_n K 1 d_BookReader_readClause_140 rfl rfl ?_
  refine j_if_eq (tgt := 151) K d_BookReader_readClause_141 (by decide) (fun q => ?_) (fun q => ?_)
  · have h := if_t h q
    refine j_iload K 3 d_BookReader_readClause_151 rfl ?_
    refine j_if_eq (tgt := 163) K d_BookReader_readClause_153 (by decide) (fun q => ?_) (fun q => ?_)
    · have h := if_t h q
      refine j_aload_n K 0 d_BookReader_readClause_163 rfl rfl ?_
      refine j_iload_n K 2 d_BookReader_readClause_164 rfl rfl ?_
      obtain ⟨q30, h⟩ := ck_e h
      obtain ⟨κ29, e29, h⟩ := bo_e h
      refine ecallV_v K hN (c_BookReader_readPuts_ok l D θ N x0 x3 κ27 _ e29) eG_BookReader_66 eh_BookReader_readPuts (by decide) (rmA_ok (by decide) (by decide)) rfl q30 (by decide) rfl (st := []) (Nat.le_of_ble_eq_true rfl) rfl d_BookReader_readClause_165 ⟨Nat.le_of_ble_eq_true rfl, Nat.le_of_ble_eq_true rfl⟩ ?_
      exact eret_v K h hr hlk d_BookReader_readClause_168
    · have h := if_f h q
      refine j_aload_n K 0 d_BookReader_readClause_156 rfl rfl ?_
      obtain ⟨q32, h⟩ := ck_e h
      obtain ⟨κ31, e31, h⟩ := bo_e h
      refine ecallV_v K hN (c_BookReader_readHangs_ok l D θ N x0 κ27 _ e31) eG_BookReader_63 eh_BookReader_readHangs (by decide) (rmA_ok (by decide) (by decide)) rfl q32 (by decide) rfl (st := []) (Nat.le_of_ble_eq_true rfl) rfl d_BookReader_readClause_157 ⟨Nat.le_of_ble_eq_true rfl, Nat.le_of_ble_eq_true rfl⟩ ?_
      refine j_goto (tgt := 168) K d_BookReader_readClause_160 (by decide) ?_
      exact eret_v K h hr hlk d_BookReader_readClause_168
  · have h := if_f h q
    refine j_aload_n K 0 d_BookReader_readClause_144 rfl rfl ?_
    obtain ⟨q34, h⟩ := ck_e h
    obtain ⟨κ33, e33, h⟩ := bo_e h
    refine ecallV_v K hN (c_BookReader_readPay_ok l D θ N x0 κ27 _ e33) eG_BookReader_60 eh_BookReader_readPay (by decide) (rmA_ok (by decide) (by decide)) rfl q34 (by decide) rfl (st := []) (Nat.le_of_ble_eq_true rfl) rfl d_BookReader_readClause_145 ⟨Nat.le_of_ble_eq_true rfl, Nat.le_of_ble_eq_true rfl⟩ ?_
    refine j_goto (tgt := 168) K d_BookReader_readClause_148 (by decide) ?_
    exact eret_v K h hr hlk d_BookReader_readClause_168
def b_BookReader_readClause_105 (N : Nat) (x0 : Nat) (x2 : Int32) (x3 : Int32) (x4 : Int32) (x5 : Int32) (κ : Cz) : Option (Cz) := if x4 = 0 then b_BookReader_readClause_133 N x0 x2 x3 x5 κ else ck (isK κ x0 1) (bo (fr κ x0 1) (fun o36 => ck (isK κ o36 0) (if (fi κ o36 3) < 12 then b_BookReader_readClause_133 N x0 x2 x3 x5 κ else bo (fr κ x0 0) (fun o38 => ck (isK κ o38 9) (bo (p_Tokens_fail N o38 4 κ) (fun κ39 => some κ39))))))
set_option maxHeartbeats 4000000 in
set_option maxRecDepth 100000 in
theorem t_BookReader_readClause_105 {p : Program} {l : Launch} {e : Env} {s : State} {m : MethodId} {args : Array Value} {below : List Frame} {meth : Method} {c : Code} {D : va_G} {θ : Tc} {A : Nat → Prop} (K : KE p s m args c c_BookReader_readClause 6 "ErrataRow$BookReader" y_BookReader_readClause none D θ A) (hN : NX s) (hr : meth.sig.returnType = none) (hlk : meth.locks = false) (N : Nat) (ρ : Cz) (x0 : Nat) (x2 : Int32) (x3 : Int32) (x4 : Int32) (x5 : Int32) (κ : Cz) (h : b_BookReader_readClause_105 N x0 x2 x3 x4 x5 κ = some ρ) : JE p l e (rmA 4 0 0) s m args below meth c D θ A 6 0 0 (QEv below args s D θ A 0 0 ρ) κ [(0, .ref x0), (2, .int x2), (3, .int x3), (4, .int x4), (5, .int x5)] [] 105 := by
  unfold b_BookReader_readClause_105 at h
  refine j_iload K 3 d_BookReader_readClause_105 rfl ?_
  refine j_if_eq (tgt := 133) K d_BookReader_readClause_107 (by decide) (fun q => ?_) (fun q => ?_)
  · have h := if_t h q
    refine j_sub [0, 1, 2, 4] rfl ?_
    exact t_BookReader_readClause_133 K hN hr hlk N ρ x0 x2 x3 x5 κ h
  · have h := if_f h q
    refine j_aload_n K 0 d_BookReader_readClause_110 rfl rfl ?_
    obtain ⟨q35, h⟩ := ck_e h
    refine eg_BookReader_told K ef_BookReader_12 q35 d_BookReader_readClause_111 ?_
    obtain ⟨o36, e36, h⟩ := bo_e h
    refine j_eqq e36 ?_
    obtain ⟨q37, h⟩ := ck_e h
    refine eg_Book_habits K ef_BookReader_54 q37 d_BookReader_readClause_114 ?_
    refine j_bipush (v := 12) K d_BookReader_readClause_117 (by decide) ?_
    refine j_icmp_lt (tgt := 133) K d_BookReader_readClause_119 (by decide) (fun q => ?_) (fun q => ?_)
    · have h := if_t h q
      refine j_sub [0, 1, 2, 4] rfl ?_
      exact t_BookReader_readClause_133 K hN hr hlk N ρ x0 x2 x3 x5 κ h
    · have h := if_f h q
      refine j_aload_n K 0 d_BookReader_readClause_122 rfl rfl ?_
      refine eg_BookReader_tokens K ef_BookReader_18 q35 d_BookReader_readClause_123 ?_
      obtain ⟨o38, e38, h⟩ := bo_e h
      refine j_eqq e38 ?_
      refine j_iconst (v := 4) K d_BookReader_readClause_126 (by decide) ?_
      obtain ⟨q40, h⟩ := ck_e h
      obtain ⟨κ39, e39, h⟩ := bo_e h
      refine ecallV_v K hN (c_Tokens_fail_ok l D θ N o38 4 κ _ e39) eG_BookReader_48 eh_Tokens_fail (by decide) (rmA_ok (by decide) (by decide)) rfl q40 (by decide) rfl (st := []) (Nat.le_of_ble_eq_true rfl) rfl d_BookReader_readClause_127 ⟨Nat.le_of_ble_eq_true rfl, Nat.le_of_ble_eq_true rfl⟩ ?_
      refine j_goto (tgt := 168) K d_BookReader_readClause_130 (by decide) ?_
      exact eret_v K h hr hlk d_BookReader_readClause_168
def b_BookReader_readClause_86 (N : Nat) (x0 : Nat) (x2 : Int32) (x3 : Int32) (x4 : Int32) (x5 : Int32) (t0 : Int32) (t1 : Int32) (κ : Cz) : Option (Cz) := if t1 = t0 then if x3 = 0 then b_BookReader_readClause_105 N x0 x2 x3 x4 x5 κ else ck (isK κ x0 1) (bo (fr κ x0 1) (fun o42 => ck (isK κ o42 0) (if 10 ≤ (fi κ o42 2) then bo (fr κ x0 0) (fun o44 => ck (isK κ o44 9) (bo (p_Tokens_fail N o44 4 κ) (fun κ45 => some κ45))) else b_BookReader_readClause_105 N x0 x2 x3 x4 x5 κ))) else ck (isK κ x0 1) (bo (fr κ x0 0) (fun o22 => ck (isK κ o22 9) (bo (p_Tokens_fail N o22 4 κ) (fun κ23 => some κ23))))
set_option maxHeartbeats 4000000 in
set_option maxRecDepth 100000 in
theorem t_BookReader_readClause_86 {p : Program} {l : Launch} {e : Env} {s : State} {m : MethodId} {args : Array Value} {below : List Frame} {meth : Method} {c : Code} {D : va_G} {θ : Tc} {A : Nat → Prop} (K : KE p s m args c c_BookReader_readClause 6 "ErrataRow$BookReader" y_BookReader_readClause none D θ A) (hN : NX s) (hr : meth.sig.returnType = none) (hlk : meth.locks = false) (N : Nat) (ρ : Cz) (x0 : Nat) (x2 : Int32) (x3 : Int32) (x4 : Int32) (x5 : Int32) (t0 : Int32) (t1 : Int32) (κ : Cz) (h : b_BookReader_readClause_86 N x0 x2 x3 x4 x5 t0 t1 κ = some ρ) : JE p l e (rmA 4 0 0) s m args below meth c D θ A 6 0 0 (QEv below args s D θ A 0 0 ρ) κ [(0, .ref x0), (2, .int x2), (3, .int x3), (4, .int x4), (5, .int x5)] [.int t0, .int t1] 86 := by
  unfold b_BookReader_readClause_86 at h
  refine j_icmp_ne (tgt := 122) K d_BookReader_readClause_86 (by decide) (fun q => ?_) (fun q => ?_)
  · have h := if_f h q
    refine j_aload_n K 0 d_BookReader_readClause_122 rfl rfl ?_
    obtain ⟨q21, h⟩ := ck_e h
    refine eg_BookReader_tokens K ef_BookReader_18 q21 d_BookReader_readClause_123 ?_
    obtain ⟨o22, e22, h⟩ := bo_e h
    refine j_eqq e22 ?_
    refine j_iconst (v := 4) K d_BookReader_readClause_126 (by decide) ?_
    obtain ⟨q24, h⟩ := ck_e h
    obtain ⟨κ23, e23, h⟩ := bo_e h
    refine ecallV_v K hN (c_Tokens_fail_ok l D θ N o22 4 κ _ e23) eG_BookReader_48 eh_Tokens_fail (by decide) (rmA_ok (by decide) (by decide)) rfl q24 (by decide) rfl (st := []) (Nat.le_of_ble_eq_true rfl) rfl d_BookReader_readClause_127 ⟨Nat.le_of_ble_eq_true rfl, Nat.le_of_ble_eq_true rfl⟩ ?_
    refine j_goto (tgt := 168) K d_BookReader_readClause_130 (by decide) ?_
    exact eret_v K h hr hlk d_BookReader_readClause_168
  · have h := if_t h q
    refine j_iload_n K 2 d_BookReader_readClause_89 rfl rfl ?_
    refine j_if_eq (tgt := 105) K d_BookReader_readClause_90 (by decide) (fun q => ?_) (fun q => ?_)
    · have h := if_t h q
      exact t_BookReader_readClause_105 K hN hr hlk N ρ x0 x2 x3 x4 x5 κ h
    · have h := if_f h q
      refine j_aload_n K 0 d_BookReader_readClause_93 rfl rfl ?_
      obtain ⟨q41, h⟩ := ck_e h
      refine eg_BookReader_told K ef_BookReader_12 q41 d_BookReader_readClause_94 ?_
      obtain ⟨o42, e42, h⟩ := bo_e h
      refine j_eqq e42 ?_
      obtain ⟨q43, h⟩ := ck_e h
      refine eg_Book_letters K ef_BookReader_51 q43 d_BookReader_readClause_97 ?_
      refine j_bipush (v := 10) K d_BookReader_readClause_100 (by decide) ?_
      refine j_icmp_ge (tgt := 122) K d_BookReader_readClause_102 (by decide) (fun q => ?_) (fun q => ?_)
      · have h := if_t h q
        refine j_aload_n K 0 d_BookReader_readClause_122 rfl rfl ?_
        refine eg_BookReader_tokens K ef_BookReader_18 q41 d_BookReader_readClause_123 ?_
        obtain ⟨o44, e44, h⟩ := bo_e h
        refine j_eqq e44 ?_
        refine j_iconst (v := 4) K d_BookReader_readClause_126 (by decide) ?_
        obtain ⟨q46, h⟩ := ck_e h
        obtain ⟨κ45, e45, h⟩ := bo_e h
        refine ecallV_v K hN (c_Tokens_fail_ok l D θ N o44 4 κ _ e45) eG_BookReader_48 eh_Tokens_fail (by decide) (rmA_ok (by decide) (by decide)) rfl q46 (by decide) rfl (st := []) (Nat.le_of_ble_eq_true rfl) rfl d_BookReader_readClause_127 ⟨Nat.le_of_ble_eq_true rfl, Nat.le_of_ble_eq_true rfl⟩ ?_
        refine j_goto (tgt := 168) K d_BookReader_readClause_130 (by decide) ?_
        exact eret_v K h hr hlk d_BookReader_readClause_168
      · have h := if_f h q
        exact t_BookReader_readClause_105 K hN hr hlk N ρ x0 x2 x3 x4 x5 κ h
def b_BookReader_readClause_70 (N : Nat) (x0 : Nat) (x1 : Int32) (x2 : Int32) (x3 : Int32) (x4 : Int32) (x5 : Int32) (κ : Cz) : Option (Cz) := if 40 ≤ x1 then ck (isK κ x0 1) (bo (fr κ x0 0) (fun o18 => ck (isK κ o18 9) (bo (p_Tokens_fail N o18 4 κ) (fun κ19 => some κ19)))) else if x1 = 0 then b_BookReader_readClause_86 N x0 x2 x3 x4 x5 1 x2 κ else b_BookReader_readClause_86 N x0 x2 x3 x4 x5 0 x2 κ
set_option maxHeartbeats 4000000 in
set_option maxRecDepth 100000 in
theorem t_BookReader_readClause_70 {p : Program} {l : Launch} {e : Env} {s : State} {m : MethodId} {args : Array Value} {below : List Frame} {meth : Method} {c : Code} {D : va_G} {θ : Tc} {A : Nat → Prop} (K : KE p s m args c c_BookReader_readClause 6 "ErrataRow$BookReader" y_BookReader_readClause none D θ A) (hN : NX s) (hr : meth.sig.returnType = none) (hlk : meth.locks = false) (N : Nat) (ρ : Cz) (x0 : Nat) (x1 : Int32) (x2 : Int32) (x3 : Int32) (x4 : Int32) (x5 : Int32) (κ : Cz) (h : b_BookReader_readClause_70 N x0 x1 x2 x3 x4 x5 κ = some ρ) : JE p l e (rmA 4 0 0) s m args below meth c D θ A 6 0 0 (QEv below args s D θ A 0 0 ρ) κ [(0, .ref x0), (1, .int x1), (2, .int x2), (3, .int x3), (4, .int x4), (5, .int x5)] [] 70 := by
  unfold b_BookReader_readClause_70 at h
  refine j_iload_n K 1 d_BookReader_readClause_70 rfl rfl ?_
  refine j_bipush (v := 40) K d_BookReader_readClause_71 (by decide) ?_
  refine j_icmp_ge (tgt := 122) K d_BookReader_readClause_73 (by decide) (fun q => ?_) (fun q => ?_)
  · have h := if_t h q
    refine j_aload_n K 0 d_BookReader_readClause_122 rfl rfl ?_
    obtain ⟨q17, h⟩ := ck_e h
    refine eg_BookReader_tokens K ef_BookReader_18 q17 d_BookReader_readClause_123 ?_
    obtain ⟨o18, e18, h⟩ := bo_e h
    refine j_eqq e18 ?_
    refine j_iconst (v := 4) K d_BookReader_readClause_126 (by decide) ?_
    obtain ⟨q20, h⟩ := ck_e h
    obtain ⟨κ19, e19, h⟩ := bo_e h
    refine ecallV_v K hN (c_Tokens_fail_ok l D θ N o18 4 κ _ e19) eG_BookReader_48 eh_Tokens_fail (by decide) (rmA_ok (by decide) (by decide)) rfl q20 (by decide) rfl (st := []) (Nat.le_of_ble_eq_true rfl) rfl d_BookReader_readClause_127 ⟨Nat.le_of_ble_eq_true rfl, Nat.le_of_ble_eq_true rfl⟩ ?_
    refine j_goto (tgt := 168) K d_BookReader_readClause_130 (by decide) ?_
    exact eret_v K h hr hlk d_BookReader_readClause_168
  · have h := if_f h q
    refine j_iload_n K 2 d_BookReader_readClause_76 rfl rfl ?_
    refine j_iload_n K 1 d_BookReader_readClause_77 rfl rfl ?_
    refine j_if_ne (tgt := 85) K d_BookReader_readClause_78 (by decide) (fun q => ?_) (fun q => ?_)
    · have h := if_f h q
      refine j_iconst (v := 0) K d_BookReader_readClause_85 (by decide) ?_
      refine j_sub [0, 2, 3, 4, 5] rfl ?_
      exact t_BookReader_readClause_86 K hN hr hlk N ρ x0 x2 x3 x4 x5 0 x2 κ h
    · have h := if_t h q
      refine j_iconst (v := 1) K d_BookReader_readClause_81 (by decide) ?_
      refine j_goto (tgt := 86) K d_BookReader_readClause_82 (by decide) ?_
      refine j_sub [0, 2, 3, 4, 5] rfl ?_
      exact t_BookReader_readClause_86 K hN hr hlk N ρ x0 x2 x3 x4 x5 1 x2 κ h
def p_BookReader_readClause (N : Nat) (this : Nat) (a1 : Int32) (κ : Cz) : Option (Cz) := ck (isK κ this 1) (bo (fr κ this 0) (fun o2 => ck (isK κ o2 9) (bd (p_Tokens_isWord N o2 12 κ) (fun r3 κ3 => ck (isK κ3 this 1) (bo (fr κ3 this 0) (fun o6 => ck (isK κ3 o6 9) (bd (p_Tokens_isWord N o6 0 κ3) (fun r7 κ7 => ck (isK κ7 this 1) (bo (fr κ7 this 0) (fun o10 => ck (isK κ7 o10 9) (bd (p_Tokens_isWord N o10 13 κ7) (fun r11 κ11 => ck (isK κ11 this 1) (bo (fr κ11 this 0) (fun o14 => ck (isK κ11 o14 9) (bd (p_Tokens_isWord N o14 14 κ11) (fun r15 κ15 => if r3 = 0 then if r7 = 0 then if r11 = 0 then if r15 = 0 then ck (isK κ15 this 1) (bo (fr κ15 this 0) (fun o48 => ck (isK κ15 o48 9) (bo (p_Tokens_fail N o48 0 κ15) (fun κ49 => some κ49)))) else b_BookReader_readClause_70 N this a1 r3 r7 r11 r15 κ15 else b_BookReader_readClause_70 N this a1 r3 r7 r11 r15 κ15 else b_BookReader_readClause_70 N this a1 r3 r7 r11 r15 κ15 else b_BookReader_readClause_70 N this a1 r3 r7 r11 r15 κ15))))))))))))))))
set_option maxHeartbeats 4000000 in
set_option maxRecDepth 100000 in
theorem c_BookReader_readClause_ok (l : Launch) (D : va_G) (θ : Tc) (N : Nat) (this : Nat) (a1 : Int32) (κ : Cz) (ρ : Cz) (h : p_BookReader_readClause N this a1 κ = some ρ) : CEv l D θ y_BookReader_readClause c_BookReader_readClause 6 none 4 0 0 [.ref this, .int a1] κ ρ := by
  intro sz
  refine e_met l [.ref this, .int a1] (by decide +kernel) (Nat.le_of_ble_eq_true rfl) ?_
  intro p e s m args below meth c K hN hr hlk hnm hs
  generalize va_A (wE θ κ) sz = A at K ⊢
  have K : KE p s m args c c_BookReader_readClause 6 "ErrataRow$BookReader" y_BookReader_readClause none D θ A := K
  show JE p l e (rmA 4 0 0) s m args below meth c D θ A 6 0 0 (QEv below args s D θ A 0 0 ρ) κ [(0, .ref this), (1, .int a1)] [] 0
  unfold p_BookReader_readClause at h
  refine j_aload_n K 0 d_BookReader_readClause_0 rfl rfl ?_
  obtain ⟨q1, h⟩ := ck_e h
  refine eg_BookReader_tokens K ef_BookReader_18 q1 d_BookReader_readClause_1 ?_
  obtain ⟨o2, e2, h⟩ := bo_e h
  refine j_eqq e2 ?_
  refine j_bipush (v := 12) K d_BookReader_readClause_4 (by decide) ?_
  obtain ⟨q4, h⟩ := ck_e h
  obtain ⟨r3, κ3, e3, h⟩ := bd_e h
  refine ecallV_i K hN (c_Tokens_isWord_ok l D θ N o2 12 κ _ e3) eG_BookReader_44 eh_Tokens_isWord (by decide) (rmA_ok (by decide) (by decide)) rfl q4 (by decide) rfl (st := []) (Nat.le_of_ble_eq_true rfl) rfl d_BookReader_readClause_6 ⟨Nat.le_of_ble_eq_true rfl, Nat.le_of_ble_eq_true rfl⟩ ?_
  refine j_istore_n (lv' := [(2, .int r3), (0, .ref this), (1, .int a1)]) K d_BookReader_readClause_9 rfl (by decide) rfl ?_
  refine j_aload_n K 1 d_BookReader_readClause_10 rfl rfl ?_
  obtain ⟨q5, h⟩ := ck_e h
  refine eg_BookReader_tokens K ef_BookReader_18 q5 d_BookReader_readClause_11 ?_
  obtain ⟨o6, e6, h⟩ := bo_e h
  refine j_eqq e6 ?_
  refine j_iconst (v := 0) K d_BookReader_readClause_14 (by decide) ?_
  obtain ⟨q8, h⟩ := ck_e h
  obtain ⟨r7, κ7, e7, h⟩ := bd_e h
  refine ecallV_i K hN (c_Tokens_isWord_ok l D θ N o6 0 κ3 _ e7) eG_BookReader_44 eh_Tokens_isWord (by decide) (rmA_ok (by decide) (by decide)) rfl q8 (by decide) rfl (st := []) (Nat.le_of_ble_eq_true rfl) rfl d_BookReader_readClause_15 ⟨Nat.le_of_ble_eq_true rfl, Nat.le_of_ble_eq_true rfl⟩ ?_
  refine j_istore_n (lv' := [(3, .int r7), (2, .int r3), (0, .ref this), (1, .int a1)]) K d_BookReader_readClause_18 rfl (by decide) rfl ?_
  refine j_aload_n K 2 d_BookReader_readClause_19 rfl rfl ?_
  obtain ⟨q9, h⟩ := ck_e h
  refine eg_BookReader_tokens K ef_BookReader_18 q9 d_BookReader_readClause_20 ?_
  obtain ⟨o10, e10, h⟩ := bo_e h
  refine j_eqq e10 ?_
  refine j_bipush (v := 13) K d_BookReader_readClause_23 (by decide) ?_
  obtain ⟨q12, h⟩ := ck_e h
  obtain ⟨r11, κ11, e11, h⟩ := bd_e h
  refine ecallV_i K hN (c_Tokens_isWord_ok l D θ N o10 13 κ7 _ e11) eG_BookReader_44 eh_Tokens_isWord (by decide) (rmA_ok (by decide) (by decide)) rfl q12 (by decide) rfl (st := []) (Nat.le_of_ble_eq_true rfl) rfl d_BookReader_readClause_25 ⟨Nat.le_of_ble_eq_true rfl, Nat.le_of_ble_eq_true rfl⟩ ?_
  refine j_istore (lv' := [(4, .int r11), (3, .int r7), (2, .int r3), (0, .ref this), (1, .int a1)]) K d_BookReader_readClause_28 (by decide) rfl ?_
  refine j_aload_n K 3 d_BookReader_readClause_30 rfl rfl ?_
  obtain ⟨q13, h⟩ := ck_e h
  refine eg_BookReader_tokens K ef_BookReader_18 q13 d_BookReader_readClause_31 ?_
  obtain ⟨o14, e14, h⟩ := bo_e h
  refine j_eqq e14 ?_
  refine j_bipush (v := 14) K d_BookReader_readClause_34 (by decide) ?_
  obtain ⟨q16, h⟩ := ck_e h
  obtain ⟨r15, κ15, e15, h⟩ := bd_e h
  refine ecallV_i K hN (c_Tokens_isWord_ok l D θ N o14 14 κ11 _ e15) eG_BookReader_44 eh_Tokens_isWord (by decide) (rmA_ok (by decide) (by decide)) rfl q16 (by decide) rfl (st := []) (Nat.le_of_ble_eq_true rfl) rfl d_BookReader_readClause_36 ⟨Nat.le_of_ble_eq_true rfl, Nat.le_of_ble_eq_true rfl⟩ ?_
  refine j_istore (lv' := [(5, .int r15), (4, .int r11), (3, .int r7), (2, .int r3), (0, .ref this), (1, .int a1)]) K d_BookReader_readClause_39 (by decide) rfl ?_
  refine j_iload_n K 3 d_BookReader_readClause_41 rfl rfl ?_
  refine j_if_ne (tgt := 70) K d_BookReader_readClause_42 (by decide) (fun q => ?_) (fun q => ?_)
  · have h := if_f h q
    refine j_sub [4, 5, 3, 2, 1, 0] rfl ?_
    exact t_BookReader_readClause_70 K hN hr hlk N ρ this a1 r3 r7 r11 r15 κ15 h
  · have h := if_t h q
    refine j_iload_n K 2 d_BookReader_readClause_45 rfl rfl ?_
    refine j_if_ne (tgt := 70) K d_BookReader_readClause_46 (by decide) (fun q => ?_) (fun q => ?_)
    · have h := if_f h q
      refine j_sub [4, 5, 3, 2, 1, 0] rfl ?_
      exact t_BookReader_readClause_70 K hN hr hlk N ρ this a1 r3 r7 r11 r15 κ15 h
    · have h := if_t h q
      refine j_iload K 1 d_BookReader_readClause_49 rfl ?_
      refine j_if_ne (tgt := 70) K d_BookReader_readClause_51 (by decide) (fun q => ?_) (fun q => ?_)
      · have h := if_f h q
        refine j_sub [4, 5, 3, 2, 1, 0] rfl ?_
        exact t_BookReader_readClause_70 K hN hr hlk N ρ this a1 r3 r7 r11 r15 κ15 h
      · have h := if_t h q
        refine j_iload K 0 d_BookReader_readClause_54 rfl ?_
        refine j_if_ne (tgt := 70) K d_BookReader_readClause_56 (by decide) (fun q => ?_) (fun q => ?_)
        · have h := if_f h q
          refine j_sub [4, 5, 3, 2, 1, 0] rfl ?_
          exact t_BookReader_readClause_70 K hN hr hlk N ρ this a1 r3 r7 r11 r15 κ15 h
        · have h := if_t h q
          refine j_aload_n K 4 d_BookReader_readClause_59 rfl rfl ?_
          obtain ⟨q47, h⟩ := ck_e h
          refine eg_BookReader_tokens K ef_BookReader_18 q47 d_BookReader_readClause_60 ?_
          obtain ⟨o48, e48, h⟩ := bo_e h
          refine j_eqq e48 ?_
          refine j_iconst (v := 0) K d_BookReader_readClause_63 (by decide) ?_
          obtain ⟨q50, h⟩ := ck_e h
          obtain ⟨κ49, e49, h⟩ := bo_e h
          refine ecallV_v K hN (c_Tokens_fail_ok l D θ N o48 0 κ15 _ e49) eG_BookReader_48 eh_Tokens_fail (by decide) (rmA_ok (by decide) (by decide)) rfl q50 (by decide) rfl (st := []) (Nat.le_of_ble_eq_true rfl) rfl d_BookReader_readClause_64 ⟨Nat.le_of_ble_eq_true rfl, Nat.le_of_ble_eq_true rfl⟩ ?_
          refine j_goto (tgt := 168) K d_BookReader_readClause_67 (by decide) ?_
          exact eret_v K h hr hlk d_BookReader_readClause_168
def b_Press_chosen_47 (N : Nat) : Nat → Nat → Nat → Int32 → Int32 → Int32 → Int64 → Int32 → Cz → Option (Int32 × Cz)
  | 0, _, _, _, _, _, _, _, _ => none
  | n + 1, x0, x1, x2, x3, x4, x5, x7, κ => ck (isK κ x0 4) (bo (fr κ x0 0) (fun o10 => ck (isK κ o10 0) (if (fi κ o10 2) ≤ x7 then some (x4, κ) else bd (p_ErrataRow_hasBit N x3 x7 κ) (fun r12 κ12 => if r12 = 0 then lt (x7 + 1) (fun v13 => b_Press_chosen_47 N n x0 x1 x2 x3 x4 x5 v13 κ12) else ck (isK κ12 x0 4) (bo (p_Press_tellWordsOf N x0 x1 x7 x2 κ12) (fun κ14 => ck (isK κ14 x0 4) (oc (fr κ14 x0 2) (bo (fr κ14 x0 1) (fun o18 => none)) (fun o17 => bo (fr κ14 x0 1) (fun o20 => ck (isK κ14 o17 6) (bd (p_Rule_sumFor N o17 o20 κ14) (fun r21 κ21 => if (lg_cmp r21 x5) ≤ 0 then lt (x7 + 1) (fun v23 => b_Press_chosen_47 N n x0 x1 x2 x3 x4 x5 v23 κ21) else lt (x7 + 1) (fun v24 => b_Press_chosen_47 N n x0 x1 x2 x3 x7 r21 v24 κ21))))))))))))
set_option maxHeartbeats 4000000 in
set_option maxRecDepth 100000 in
theorem t_Press_chosen_47 {p : Program} {l : Launch} {e : Env} {s : State} {m : MethodId} {args : Array Value} {below : List Frame} {meth : Method} {c : Code} {D : va_G} {θ : Tc} {A : Nat → Prop} (K : KE p s m args c c_Press_chosen 10 "ErrataRow$Press" y_Press_chosen (some .int) D θ A) (hN : NX s) (hr : meth.sig.returnType = (some .int)) (hlk : meth.locks = false) (N : Nat) (ρ : Int32 × Cz) : ∀ (n : Nat) (x0 : Nat) (x1 : Nat) (x2 : Int32) (x3 : Int32) (x4 : Int32) (x5 : Int64) (x7 : Int32) (κ : Cz), b_Press_chosen_47 N n x0 x1 x2 x3 x4 x5 x7 κ = some ρ → JE p l e (rmA 4 0 0) s m args below meth c D θ A 10 0 0 (QEi below args s D θ A 0 0 ρ) κ [(0, .ref x0), (1, .ref x1), (2, .int x2), (3, .int x3), (4, .int x4), (5, .long x5), (7, .int x7)] [] 47 := by
  intro n
  induction n with
  | zero =>
    intro x0 x1 x2 x3 x4 x5 x7 κ h
    exact absurd h (by simp [b_Press_chosen_47])
  | succ n ih =>
    intro x0 x1 x2 x3 x4 x5 x7 κ h
    rw [b_Press_chosen_47] at h
    refine j_iload K 6 d_Press_chosen_47 rfl ?_
    refine j_aload_n K 0 d_Press_chosen_49 rfl rfl ?_
    obtain ⟨q9, h⟩ := ck_e h
    refine eg_Press_book K ef_Press_21 q9 d_Press_chosen_50 ?_
    obtain ⟨o10, e10, h⟩ := bo_e h
    refine j_eqq e10 ?_
    obtain ⟨q11, h⟩ := ck_e h
    refine eg_Book_letters K ef_Press_25 q11 d_Press_chosen_53 ?_
    refine j_icmp_ge (tgt := 111) K d_Press_chosen_56 (by decide) (fun q => ?_) (fun q => ?_)
    · have h := if_t h q
      refine j_iload K 4 d_Press_chosen_111 rfl ?_
      exact eret_i K h hr hlk d_Press_chosen_113
    · have h := if_f h q
      refine j_iload_n K 3 d_Press_chosen_59 rfl rfl ?_
      refine j_iload K 6 d_Press_chosen_60 rfl ?_
      obtain ⟨r12, κ12, e12, h⟩ := bd_e h
      refine ecallN_i K hN (c_ErrataRow_hasBit_ok l D θ N x3 x7 κ _ e12) ec_ErrataRow_hasBit ei_ErrataRow es_ErrataRow_hasBit (NX_Press_53 hN) eh_ErrataRow_hasBit (by decide) (rmA_ok (by decide) (by decide)) rfl (st := []) (Nat.le_of_ble_eq_true rfl) rfl d_Press_chosen_62 ⟨Nat.le_of_ble_eq_true rfl, Nat.le_of_ble_eq_true rfl⟩ ?_
      refine j_if_eq (tgt := 105) K d_Press_chosen_65 (by decide) (fun q => ?_) (fun q => ?_)
      · have h := if_t h q
        obtain ⟨v13, e13, h⟩ := lt_e h
        refine j_iinc (k := 6) (v := v13) (lv' := [(7, .int v13), (0, .ref x0), (1, .ref x1), (2, .int x2), (3, .int x3), (4, .int x4), (5, .long x5)]) K d_Press_chosen_105 rfl (by rw [e13]; rfl) (by decide) rfl ?_
        refine j_goto (tgt := 47) K d_Press_chosen_108 (by decide) ?_
        refine j_sub [1, 2, 3, 4, 5, 6, 0] rfl ?_
        exact ih x0 x1 x2 x3 x4 x5 v13 κ12 h
      · have h := if_f h q
        refine j_aload_n K 0 d_Press_chosen_68 rfl rfl ?_
        refine j_aload_n K 1 d_Press_chosen_69 rfl rfl ?_
        refine j_iload K 6 d_Press_chosen_70 rfl ?_
        refine j_iload_n K 2 d_Press_chosen_72 rfl rfl ?_
        obtain ⟨q15, h⟩ := ck_e h
        obtain ⟨κ14, e14, h⟩ := bo_e h
        refine ecallV_v K hN (c_Press_tellWordsOf_ok l D θ N x0 x1 x7 x2 κ12 _ e14) eG_Press_88 eh_Press_tellWordsOf (by decide) (rmA_ok (by decide) (by decide)) rfl q15 (by decide) rfl (st := []) (Nat.le_of_ble_eq_true rfl) rfl d_Press_chosen_73 ⟨Nat.le_of_ble_eq_true rfl, Nat.le_of_ble_eq_true rfl⟩ ?_
        refine j_aload_n K 0 d_Press_chosen_76 rfl rfl ?_
        obtain ⟨q16, h⟩ := ck_e h
        refine eg_Press_rule K ef_Press_77 q16 d_Press_chosen_77 ?_
        rcases oc_e h with ⟨e17, h⟩ | ⟨o17, e17, h⟩
        · refine j_eqn e17 ?_
          refine j_aload_n K 0 d_Press_chosen_80 rfl rfl ?_
          refine eg_Press_words K ef_Press_11 q16 d_Press_chosen_81 ?_
          obtain ⟨o18, e18, h⟩ := bo_e h
          refine j_eqq e18 ?_
          exact absurd h (by simp)
        · refine j_eqq e17 ?_
          refine j_aload_n K 0 d_Press_chosen_80 rfl rfl ?_
          refine eg_Press_words K ef_Press_11 q16 d_Press_chosen_81 ?_
          obtain ⟨o20, e20, h⟩ := bo_e h
          refine j_eqq e20 ?_
          obtain ⟨q22, h⟩ := ck_e h
          obtain ⟨r21, κ21, e21, h⟩ := bd_e h
          refine ecallV_l K hN (c_Rule_sumFor_ok l D θ N o17 o20 κ14 _ e21) eG_Press_91 eh_Rule_sumFor (by decide) (rmA_ok (by decide) (by decide)) rfl q22 (by decide) rfl (st := []) (Nat.le_of_ble_eq_true rfl) rfl d_Press_chosen_84 ⟨Nat.le_of_ble_eq_true rfl, Nat.le_of_ble_eq_true rfl⟩ ?_
          refine j_lstore (lv' := [(8, .long r21), (0, .ref x0), (1, .ref x1), (2, .int x2), (3, .int x3), (4, .int x4), (5, .long x5), (7, .int x7)]) K d_Press_chosen_87 (by decide) rfl ?_
          refine j_lload K 0 d_Press_chosen_89 rfl ?_
          refine j_lload K 6 d_Press_chosen_91 rfl ?_
          refine j_lcmp K d_Press_chosen_93 ?_
          refine j_if_le (tgt := 105) K d_Press_chosen_94 (by decide) (fun q => ?_) (fun q => ?_)
          · have h := if_t h q
            obtain ⟨v23, e23, h⟩ := lt_e h
            refine j_iinc (k := 7) (v := v23) (lv' := [(7, .int v23), (8, .long r21), (0, .ref x0), (1, .ref x1), (2, .int x2), (3, .int x3), (4, .int x4), (5, .long x5)]) K d_Press_chosen_105 rfl (by rw [e23]; rfl) (by decide) rfl ?_
            refine j_goto (tgt := 47) K d_Press_chosen_108 (by decide) ?_
            refine j_sub [2, 3, 4, 5, 6, 7, 0] rfl ?_
            exact ih x0 x1 x2 x3 x4 x5 v23 κ21 h
          · have h := if_f h q
            refine j_lload K 0 d_Press_chosen_97 rfl ?_
            refine j_lstore (lv' := [(5, .long r21), (8, .long r21), (0, .ref x0), (1, .ref x1), (2, .int x2), (3, .int x3), (4, .int x4), (7, .int x7)]) K d_Press_chosen_99 (by decide) rfl ?_
            refine j_iload K 7 d_Press_chosen_101 rfl ?_
            refine j_istore (lv' := [(4, .int x7), (5, .long r21), (8, .long r21), (0, .ref x0), (1, .ref x1), (2, .int x2), (3, .int x3), (7, .int x7)]) K d_Press_chosen_103 (by decide) rfl ?_
            obtain ⟨v24, e24, h⟩ := lt_e h
            refine j_iinc (k := 7) (v := v24) (lv' := [(7, .int v24), (4, .int x7), (5, .long r21), (8, .long r21), (0, .ref x0), (1, .ref x1), (2, .int x2), (3, .int x3)]) K d_Press_chosen_105 rfl (by rw [e24]; rfl) (by decide) rfl ?_
            refine j_goto (tgt := 47) K d_Press_chosen_108 (by decide) ?_
            refine j_sub [4, 5, 6, 7, 1, 2, 0] rfl ?_
            exact ih x0 x1 x2 x3 x7 r21 v24 κ21 h
def p_Press_chosen (N : Nat) (this : Nat) (a1 : Nat) (κ : Cz) : Option (Int32 × Cz) := ck (isK κ this 4) (bd (p_Press_wrongOf N this a1 κ) (fun r1 κ1 => ck (isK κ1 this 4) (bd (p_Press_looseOfWrong N this a1 r1 κ1) (fun r3 κ3 => if r3 = 0 then some ((-1), κ3) else ck (isK κ3 this 4) (oc (fr κ3 this 2) (bd (p_Integer_numberOfTrailingZeros N r3 κ3) (fun r7 κ7 => some (r7, κ7))) (fun o6 => bo (p_Press_tellWords N this a1 r1 r3 κ3) (fun κ8 => b_Press_chosen_47 N N this a1 r1 r3 (-1) 0 0 κ8)))))))
set_option maxHeartbeats 4000000 in
set_option maxRecDepth 100000 in
theorem c_Press_chosen_ok (l : Launch) (D : va_G) (θ : Tc) (N : Nat) (this : Nat) (a1 : Nat) (κ : Cz) (ρ : Int32 × Cz) (h : p_Press_chosen N this a1 κ = some ρ) : CEi l D θ y_Press_chosen c_Press_chosen 10 (some .int) 4 0 0 [.ref this, .ref a1] κ ρ := by
  intro sz
  refine e_met l [.ref this, .ref a1] (by decide +kernel) (Nat.le_of_ble_eq_true rfl) ?_
  intro p e s m args below meth c K hN hr hlk hnm hs
  generalize va_A (wE θ κ) sz = A at K ⊢
  have K : KE p s m args c c_Press_chosen 10 "ErrataRow$Press" y_Press_chosen (some .int) D θ A := K
  show JE p l e (rmA 4 0 0) s m args below meth c D θ A 10 0 0 (QEi below args s D θ A 0 0 ρ) κ [(0, .ref this), (1, .ref a1)] [] 0
  unfold p_Press_chosen at h
  refine j_aload_n K 0 d_Press_chosen_0 rfl rfl ?_
  refine j_aload_n K 1 d_Press_chosen_1 rfl rfl ?_
  obtain ⟨q2, h⟩ := ck_e h
  obtain ⟨r1, κ1, e1, h⟩ := bd_e h
  refine ecallV_i K hN (c_Press_wrongOf_ok l D θ N this a1 κ _ e1) eG_Press_39 eh_Press_wrongOf (by decide) (rmA_ok (by decide) (by decide)) rfl q2 (by decide) rfl (st := []) (Nat.le_of_ble_eq_true rfl) rfl d_Press_chosen_2 ⟨Nat.le_of_ble_eq_true rfl, Nat.le_of_ble_eq_true rfl⟩ ?_
  refine j_istore_n (lv' := [(2, .int r1), (0, .ref this), (1, .ref a1)]) K d_Press_chosen_5 rfl (by decide) rfl ?_
  refine j_aload_n K 1 d_Press_chosen_6 rfl rfl ?_
  refine j_aload_n K 2 d_Press_chosen_7 rfl rfl ?_
  refine j_iload_n K 0 d_Press_chosen_8 rfl rfl ?_
  obtain ⟨q4, h⟩ := ck_e h
  obtain ⟨r3, κ3, e3, h⟩ := bd_e h
  refine ecallV_i K hN (c_Press_looseOfWrong_ok l D θ N this a1 r1 κ1 _ e3) eG_Press_49 eh_Press_looseOfWrong (by decide) (rmA_ok (by decide) (by decide)) rfl q4 (by decide) rfl (st := []) (Nat.le_of_ble_eq_true rfl) rfl d_Press_chosen_9 ⟨Nat.le_of_ble_eq_true rfl, Nat.le_of_ble_eq_true rfl⟩ ?_
  refine j_istore_n (lv' := [(3, .int r3), (2, .int r1), (0, .ref this), (1, .ref a1)]) K d_Press_chosen_12 rfl (by decide) rfl ?_
  refine j_iload_n K 0 d_Press_chosen_13 rfl rfl ?_
  refine j_if_ne (tgt := 19) K d_Press_chosen_14 (by decide) (fun q => ?_) (fun q => ?_)
  · have h := if_f h q
    refine j_aload_n K 2 d_Press_chosen_19 rfl rfl ?_
    obtain ⟨q5, h⟩ := ck_e h
    refine eg_Press_rule K ef_Press_77 q5 d_Press_chosen_20 ?_
    rcases oc_e h with ⟨e6, h⟩ | ⟨o6, e6, h⟩
    · refine j_eqn e6 ?_
      refine e_ifnonnullN K d_Press_chosen_23 ?_
      refine j_iload_n K 0 d_Press_chosen_26 rfl rfl ?_
      obtain ⟨r7, κ7, e7, h⟩ := bd_e h
      refine ecallS_i K hN (c_Integer_numberOfTrailingZeros_ok l D θ N r3 κ3 _ e7) eG_Press_81 eh_Integer_numberOfTrailingZeros (by decide) (rmA_ok (by decide) (by decide)) rfl (st := []) (Nat.le_of_ble_eq_true rfl) rfl d_Press_chosen_27 ⟨Nat.le_of_ble_eq_true rfl, Nat.le_of_ble_eq_true rfl⟩ ?_
      exact eret_i K h hr hlk d_Press_chosen_30
    · refine j_eqq e6 ?_
      refine e_ifnonnull (tgt := 31) K d_Press_chosen_23 (by decide) ?_
      refine j_aload_n K 2 d_Press_chosen_31 rfl rfl ?_
      refine j_aload_n K 3 d_Press_chosen_32 rfl rfl ?_
      refine j_iload_n K 1 d_Press_chosen_33 rfl rfl ?_
      refine j_iload_n K 0 d_Press_chosen_34 rfl rfl ?_
      obtain ⟨κ8, e8, h⟩ := bo_e h
      refine ecallV_v K hN (c_Press_tellWords_ok l D θ N this a1 r1 r3 κ3 _ e8) eG_Press_84 eh_Press_tellWords (by decide) (rmA_ok (by decide) (by decide)) rfl q5 (by decide) rfl (st := []) (Nat.le_of_ble_eq_true rfl) rfl d_Press_chosen_35 ⟨Nat.le_of_ble_eq_true rfl, Nat.le_of_ble_eq_true rfl⟩ ?_
      refine j_iconst (v := (-1)) K d_Press_chosen_38 (by decide) ?_
      refine j_istore (lv' := [(4, .int (-1)), (3, .int r3), (2, .int r1), (0, .ref this), (1, .ref a1)]) K d_Press_chosen_39 (by decide) rfl ?_
      refine j_lconst (v := 0) K d_Press_chosen_41 (by decide) ?_
      refine j_lstore (lv' := [(5, .long 0), (4, .int (-1)), (3, .int r3), (2, .int r1), (0, .ref this), (1, .ref a1)]) K d_Press_chosen_42 (by decide) rfl ?_
      refine j_iconst (v := 0) K d_Press_chosen_44 (by decide) ?_
      refine j_istore (lv' := [(7, .int 0), (5, .long 0), (4, .int (-1)), (3, .int r3), (2, .int r1), (0, .ref this), (1, .ref a1)]) K d_Press_chosen_45 (by decide) rfl ?_
      refine j_sub [5, 6, 4, 3, 2, 1, 0] rfl ?_
      exact t_Press_chosen_47 K hN hr hlk N ρ N this a1 r1 r3 (-1) 0 0 κ8 h
  · have h := if_t h q
    refine j_iconst (v := (-1)) K d_Press_chosen_17 (by decide) ?_
    exact eret_i K h hr hlk d_Press_chosen_18
def p_RuleReader_readComparison (N : Nat) (this : Nat) (κ : Cz) : Option (Cz) := ck (isK κ this 7) (bo (p_RuleReader_readSum N this κ) (fun κ1 => ck (isK κ1 this 7) (bd (p_RuleReader_codeOfComparison N this κ1) (fun r3 κ3 => if r3 = 0 then ck (isK κ3 this 7) (bo (fr κ3 this 0) (fun o19 => ck (isK κ3 o19 9) (bo (p_Tokens_fail N o19 0 κ3) (fun κ20 => some κ20)))) else ck (isK κ3 this 7) (if (fi κ3 this 6) < 60 then lt ((fi κ3 this 6) + 1) (fun v6 => lt (sfi this 6 v6 κ3) (fun κ7 => bo (fr κ7 this 0) (fun o8 => ck (isK κ7 o8 9) (bo (p_Tokens_goOn N o8 κ7) (fun κ9 => ck (isK κ9 this 7) (bo (p_RuleReader_readSum N this κ9) (fun κ11 => ck (isK κ11 this 7) (bo (p_RuleReader_add N this r3 κ11) (fun κ13 => some κ13))))))))) else bo (fr κ3 this 0) (fun o15 => ck (isK κ3 o15 9) (bo (p_Tokens_fail N o15 3 κ3) (fun κ16 => some κ16))))))))
set_option maxHeartbeats 4000000 in
set_option maxRecDepth 100000 in
theorem c_RuleReader_readComparison_ok (l : Launch) (D : va_G) (θ : Tc) (N : Nat) (this : Nat) (κ : Cz) (ρ : Cz) (h : p_RuleReader_readComparison N this κ = some ρ) : CEv l D θ y_RuleReader_readComparison c_RuleReader_readComparison 2 none 4 0 0 [.ref this] κ ρ := by
  intro sz
  refine e_met l [.ref this] (by decide +kernel) (Nat.le_of_ble_eq_true rfl) ?_
  intro p e s m args below meth c K hN hr hlk hnm hs
  generalize va_A (wE θ κ) sz = A at K ⊢
  have K : KE p s m args c c_RuleReader_readComparison 2 "ErrataRow$RuleReader" y_RuleReader_readComparison none D θ A := K
  show JE p l e (rmA 4 0 0) s m args below meth c D θ A 2 0 0 (QEv below args s D θ A 0 0 ρ) κ [(0, .ref this)] [] 0
  unfold p_RuleReader_readComparison at h
  refine j_aload_n K 0 d_RuleReader_readComparison_0 rfl rfl ?_
  obtain ⟨q2, h⟩ := ck_e h
  obtain ⟨κ1, e1, h⟩ := bo_e h
  refine ecallV_v K hN (c_RuleReader_readSum_ok l D θ N this κ _ e1) eG_RuleReader_62 eh_RuleReader_readSum (by decide) (rmA_ok (by decide) (by decide)) rfl q2 (by decide) rfl (st := []) (Nat.le_of_ble_eq_true rfl) rfl d_RuleReader_readComparison_1 ⟨Nat.le_of_ble_eq_true rfl, Nat.le_of_ble_eq_true rfl⟩ ?_
  refine j_aload_n K 0 d_RuleReader_readComparison_4 rfl rfl ?_
  obtain ⟨q4, h⟩ := ck_e h
  obtain ⟨r3, κ3, e3, h⟩ := bd_e h
  refine ecallV_i K hN (c_RuleReader_codeOfComparison_ok l D θ N this κ1 _ e3) eG_RuleReader_86 eh_RuleReader_codeOfComparison (by decide) (rmA_ok (by decide) (by decide)) rfl q4 (by decide) rfl (st := []) (Nat.le_of_ble_eq_true rfl) rfl d_RuleReader_readComparison_5 ⟨Nat.le_of_ble_eq_true rfl, Nat.le_of_ble_eq_true rfl⟩ ?_
  refine j_istore_n (lv' := [(1, .int r3), (0, .ref this)]) K d_RuleReader_readComparison_8 rfl (by decide) rfl ?_
  refine j_iload_n K 0 d_RuleReader_readComparison_9 rfl rfl ?_
  refine j_if_ne (tgt := 24) K d_RuleReader_readComparison_10 (by decide) (fun q => ?_) (fun q => ?_)
  · have h := if_f h q
    refine j_aload_n K 1 d_RuleReader_readComparison_24 rfl rfl ?_
    obtain ⟨q5, h⟩ := ck_e h
    refine eg_RuleReader_values K ef_RuleReader_43 q5 d_RuleReader_readComparison_25 ?_
    refine j_bipush (v := 60) K d_RuleReader_readComparison_28 (by decide) ?_
    refine j_icmp_lt (tgt := 44) K d_RuleReader_readComparison_30 (by decide) (fun q => ?_) (fun q => ?_)
    · have h := if_t h q
      refine j_aload_n K 1 d_RuleReader_readComparison_44 rfl rfl ?_
      refine j_dup K d_RuleReader_readComparison_45 rfl ?_
      refine eg_RuleReader_values K ef_RuleReader_43 q5 d_RuleReader_readComparison_46 ?_
      refine j_iconst (v := 1) K d_RuleReader_readComparison_49 (by decide) ?_
      refine j_iadd K d_RuleReader_readComparison_50 ?_
      obtain ⟨v6, e6, h⟩ := lt_e h
      refine j_eqi e6 ?_
      obtain ⟨κ7, e7, h⟩ := lt_e h
      refine ep_RuleReader_values K ef_RuleReader_43 q5 d_RuleReader_readComparison_51 e7 ?_
      refine j_aload_n K 1 d_RuleReader_readComparison_54 rfl rfl ?_
      refine eg_RuleReader_tokens K ef_RuleReader_21 (isK_sfi e7 q5) d_RuleReader_readComparison_55 ?_
      obtain ⟨o8, e8, h⟩ := bo_e h
      refine j_eqq e8 ?_
      obtain ⟨q10, h⟩ := ck_e h
      obtain ⟨κ9, e9, h⟩ := bo_e h
      refine ecallV_v K hN (c_Tokens_goOn_ok l D θ N o8 κ7 _ e9) eG_RuleReader_59 eh_Tokens_goOn (by decide) (rmA_ok (by decide) (by decide)) rfl q10 (by decide) rfl (st := []) (Nat.le_of_ble_eq_true rfl) rfl d_RuleReader_readComparison_58 ⟨Nat.le_of_ble_eq_true rfl, Nat.le_of_ble_eq_true rfl⟩ ?_
      refine j_aload_n K 1 d_RuleReader_readComparison_61 rfl rfl ?_
      obtain ⟨q12, h⟩ := ck_e h
      obtain ⟨κ11, e11, h⟩ := bo_e h
      refine ecallV_v K hN (c_RuleReader_readSum_ok l D θ N this κ9 _ e11) eG_RuleReader_62 eh_RuleReader_readSum (by decide) (rmA_ok (by decide) (by decide)) rfl q12 (by decide) rfl (st := []) (Nat.le_of_ble_eq_true rfl) rfl d_RuleReader_readComparison_62 ⟨Nat.le_of_ble_eq_true rfl, Nat.le_of_ble_eq_true rfl⟩ ?_
      refine j_aload_n K 1 d_RuleReader_readComparison_65 rfl rfl ?_
      refine j_iload_n K 0 d_RuleReader_readComparison_66 rfl rfl ?_
      obtain ⟨q14, h⟩ := ck_e h
      obtain ⟨κ13, e13, h⟩ := bo_e h
      refine ecallV_v K hN (c_RuleReader_add_ok l D θ N this r3 κ11 _ e13) eG_RuleReader_77 eh_RuleReader_add (by decide) (rmA_ok (by decide) (by decide)) rfl q14 (by decide) rfl (st := []) (Nat.le_of_ble_eq_true rfl) rfl d_RuleReader_readComparison_67 ⟨Nat.le_of_ble_eq_true rfl, Nat.le_of_ble_eq_true rfl⟩ ?_
      exact eret_v K h hr hlk d_RuleReader_readComparison_70
    · have h := if_f h q
      refine j_aload_n K 1 d_RuleReader_readComparison_33 rfl rfl ?_
      refine eg_RuleReader_tokens K ef_RuleReader_21 q5 d_RuleReader_readComparison_34 ?_
      obtain ⟨o15, e15, h⟩ := bo_e h
      refine j_eqq e15 ?_
      refine j_iconst (v := 3) K d_RuleReader_readComparison_37 (by decide) ?_
      obtain ⟨q17, h⟩ := ck_e h
      obtain ⟨κ16, e16, h⟩ := bo_e h
      refine ecallV_v K hN (c_Tokens_fail_ok l D θ N o15 3 κ3 _ e16) eG_RuleReader_52 eh_Tokens_fail (by decide) (rmA_ok (by decide) (by decide)) rfl q17 (by decide) rfl (st := []) (Nat.le_of_ble_eq_true rfl) rfl d_RuleReader_readComparison_38 ⟨Nat.le_of_ble_eq_true rfl, Nat.le_of_ble_eq_true rfl⟩ ?_
      refine j_goto (tgt := 70) K d_RuleReader_readComparison_41 (by decide) ?_
      exact eret_v K h hr hlk d_RuleReader_readComparison_70
  · have h := if_t h q
    refine j_aload_n K 1 d_RuleReader_readComparison_13 rfl rfl ?_
    obtain ⟨q18, h⟩ := ck_e h
    refine eg_RuleReader_tokens K ef_RuleReader_21 q18 d_RuleReader_readComparison_14 ?_
    obtain ⟨o19, e19, h⟩ := bo_e h
    refine j_eqq e19 ?_
    refine j_iconst (v := 0) K d_RuleReader_readComparison_17 (by decide) ?_
    obtain ⟨q21, h⟩ := ck_e h
    obtain ⟨κ20, e20, h⟩ := bo_e h
    refine ecallV_v K hN (c_Tokens_fail_ok l D θ N o19 0 κ3 _ e20) eG_RuleReader_52 eh_Tokens_fail (by decide) (rmA_ok (by decide) (by decide)) rfl q21 (by decide) rfl (st := []) (Nat.le_of_ble_eq_true rfl) rfl d_RuleReader_readComparison_18 ⟨Nat.le_of_ble_eq_true rfl, Nat.le_of_ble_eq_true rfl⟩ ?_
    refine j_goto (tgt := 70) K d_RuleReader_readComparison_21 (by decide) ?_
    exact eret_v K h hr hlk d_RuleReader_readComparison_70
def p_ErrataRow_count (N : Nat) (this : Nat) (a1 : Int32) (κ : Cz) : Option (Int32 × Cz) := if a1.toInt < 0 ∨ 13 < a1.toInt then some ((-1), κ) else if a1 = 0 then ck (isK κ this 11) (bo (fr κ this 7) (fun o2 => ck (isK κ o2 10) (bo (fr κ o2 0) (fun o4 => ck (isK κ o4 0) (some (fi κ o4 1, κ)))))) else if a1 = 1 then ck (isK κ this 11) (bo (fr κ this 7) (fun o7 => ck (isK κ o7 10) (bo (fr κ o7 0) (fun o9 => ck (isK κ o9 0) (if (fi κ o9 0) = 0 then some (0, κ) else bo (fr κ this 7) (fun o11 => ck (isK κ o11 10) (bo (fr κ o11 0) (fun o13 => ck (isK κ o13 0) (bd (p_Book_editionsRound N o13 κ) (fun r14 κ14 => some (r14, κ14))))))))))) else if a1 = 2 then ck (isK κ this 11) (bo (fr κ this 7) (fun o17 => ck (isK κ o17 10) (bo (fr κ o17 0) (fun o19 => ck (isK κ o19 0) (some (fi κ o19 2, κ)))))) else if a1 = 3 then ck (isK κ this 11) (some (fi κ this 6, κ)) else if a1 = 4 then ck (isK κ this 11) (bo (fr κ this 7) (fun o23 => ck (isK κ o23 10) (some (fi κ o23 3, κ)))) else if a1 = 5 then ck (isK κ this 11) (bo (fr κ this 7) (fun o26 => ck (isK κ o26 10) (bo (fr κ o26 1) (fun o28 => ck (isK κ o28 8) (some (fi κ o28 5, κ)))))) else if a1 = 6 then ck (isK κ this 11) (bo (fr κ this 10) (fun o31 => bo (fr κ this 7) (fun o32 => ck (isK κ o32 10) (bo (fr κ o32 1) (fun o34 => ck (isK κ o31 4) (bd (p_Press_wrongOf N o31 o34 κ) (fun r35 κ35 => some (r35, κ35)))))))) else if a1 = 7 then ck (isK κ this 11) (bo (fr κ this 10) (fun o38 => bo (fr κ this 7) (fun o39 => ck (isK κ o39 10) (bo (fr κ o39 1) (fun o41 => ck (isK κ o38 4) (bd (p_Press_looseOf N o38 o41 κ) (fun r42 κ42 => some (r42, κ42)))))))) else if a1 = 8 then ck (isK κ this 11) (bo (fr κ this 7) (fun o45 => ck (isK κ o45 10) (bo (fr κ o45 1) (fun o47 => ck (isK κ o47 8) (some (fi κ o47 3, κ)))))) else if a1 = 9 then ck (isK κ this 11) (bo (fr κ this 7) (fun o50 => ck (isK κ o50 10) (bo (fr κ o50 1) (fun o52 => ck (isK κ o52 8) (some (fi κ o52 4, κ)))))) else if a1 = 10 then ck (isK κ this 11) (bo (fr κ this 7) (fun o55 => ck (isK κ o55 10) (bo (fr κ o55 2) (fun o57 => ck (isK κ o57 3) (some (fi κ o57 0, κ)))))) else if a1 = 11 then ck (isK κ this 11) (bo (fr κ this 9) (fun o60 => ck (isK κ o60 2) (some (fi κ o60 0, κ)))) else if a1 = 12 then ck (isK κ this 11) (bo (fr κ this 7) (fun o63 => ck (isK κ o63 10) (some (fi κ o63 4, κ)))) else if a1 = 13 then ck (isK κ this 11) (some (fi κ this 1, κ)) else none
set_option maxHeartbeats 4000000 in
set_option maxRecDepth 100000 in
theorem c_ErrataRow_count_ok (l : Launch) (D : va_G) (θ : Tc) (N : Nat) (this : Nat) (a1 : Int32) (κ : Cz) (ρ : Int32 × Cz) (h : p_ErrataRow_count N this a1 κ = some ρ) : CEi l D θ y_ErrataRow_count c_ErrataRow_count 2 (some .int) 4 0 0 [.ref this, .int a1] κ ρ := by
  intro sz
  refine e_met l [.ref this, .int a1] (by decide +kernel) (Nat.le_of_ble_eq_true rfl) ?_
  intro p e s m args below meth c K hN hr hlk hnm hs
  generalize va_A (wE θ κ) sz = A at K ⊢
  have K : KE p s m args c c_ErrataRow_count 2 "ErrataRow" y_ErrataRow_count (some .int) D θ A := K
  show JE p l e (rmA 4 0 0) s m args below meth c D θ A 2 0 0 (QEi below args s D θ A 0 0 ρ) κ [(0, .ref this), (1, .int a1)] [] 0
  unfold p_ErrataRow_count at h
  refine j_iload_n K 1 d_ErrataRow_count_0 rfl rfl ?_
  by_cases q : a1.toInt < 0 ∨ 13 < a1.toInt
  · have h := if_t h q
    refine j_tabOut (tgt := 230) K d_ErrataRow_count_1 q (by decide) ?_
    refine j_iconst (v := (-1)) K d_ErrataRow_count_230 (by decide) ?_
    exact eret_i K h hr hlk d_ErrataRow_count_231
  · have h := if_f h q
    by_cases q : a1 = 0
    · have h := if_t h q
      have q1 : a1.toInt = 0 := by rw [q]; decide
      refine j_tabIn (tgt := 72) K d_ErrataRow_count_1 (by rw [q1]; decide) (by rw [q1]; decide) (by rw [q1]; rfl) (by decide) ?_
      refine j_aload_n K 0 d_ErrataRow_count_72 rfl rfl ?_
      obtain ⟨q1, h⟩ := ck_e h
      refine eg_ErrataRow_world K ef_ErrataRow_45 q1 d_ErrataRow_count_73 ?_
      obtain ⟨o2, e2, h⟩ := bo_e h
      refine j_eqq e2 ?_
      obtain ⟨q3, h⟩ := ck_e h
      refine eg_World_book K ef_ErrataRow_62 q3 d_ErrataRow_count_76 ?_
      obtain ⟨o4, e4, h⟩ := bo_e h
      refine j_eqq e4 ?_
      obtain ⟨q5, h⟩ := ck_e h
      refine eg_Book_quarter K ef_ErrataRow_176 q5 d_ErrataRow_count_79 ?_
      exact eret_i K h hr hlk d_ErrataRow_count_82
    have h := if_f h q
    by_cases q : a1 = 1
    · have h := if_t h q
      have q1 : a1.toInt = 1 := by rw [q]; decide
      refine j_tabIn (tgt := 83) K d_ErrataRow_count_1 (by rw [q1]; decide) (by rw [q1]; decide) (by rw [q1]; rfl) (by decide) ?_
      refine j_aload_n K 0 d_ErrataRow_count_83 rfl rfl ?_
      obtain ⟨q6, h⟩ := ck_e h
      refine eg_ErrataRow_world K ef_ErrataRow_45 q6 d_ErrataRow_count_84 ?_
      obtain ⟨o7, e7, h⟩ := bo_e h
      refine j_eqq e7 ?_
      obtain ⟨q8, h⟩ := ck_e h
      refine eg_World_book K ef_ErrataRow_62 q8 d_ErrataRow_count_87 ?_
      obtain ⟨o9, e9, h⟩ := bo_e h
      refine j_eqq e9 ?_
      obtain ⟨q10, h⟩ := ck_e h
      refine eg_Book_told K ef_ErrataRow_160 q10 d_ErrataRow_count_90 ?_
      refine j_if_eq (tgt := 109) K d_ErrataRow_count_93 (by decide) (fun q => ?_) (fun q => ?_)
      · have h := if_t h q
        refine j_iconst (v := 0) K d_ErrataRow_count_109 (by decide) ?_
        exact eret_i K h hr hlk d_ErrataRow_count_110
      · have h := if_f h q
        refine j_aload_n K 0 d_ErrataRow_count_96 rfl rfl ?_
        refine eg_ErrataRow_world K ef_ErrataRow_45 q6 d_ErrataRow_count_97 ?_
        obtain ⟨o11, e11, h⟩ := bo_e h
        refine j_eqq e11 ?_
        obtain ⟨q12, h⟩ := ck_e h
        refine eg_World_book K ef_ErrataRow_62 q12 d_ErrataRow_count_100 ?_
        obtain ⟨o13, e13, h⟩ := bo_e h
        refine j_eqq e13 ?_
        obtain ⟨q15, h⟩ := ck_e h
        obtain ⟨r14, κ14, e14, h⟩ := bd_e h
        refine ecallV_i K hN (c_Book_editionsRound_ok l D θ N o13 κ _ e14) eG_ErrataRow_163 eh_Book_editionsRound (by decide) (rmA_ok (by decide) (by decide)) rfl q15 (by decide) rfl (st := []) (Nat.le_of_ble_eq_true rfl) rfl d_ErrataRow_count_103 ⟨Nat.le_of_ble_eq_true rfl, Nat.le_of_ble_eq_true rfl⟩ ?_
        refine j_goto (tgt := 110) K d_ErrataRow_count_106 (by decide) ?_
        exact eret_i K h hr hlk d_ErrataRow_count_110
    have h := if_f h q
    by_cases q : a1 = 2
    · have h := if_t h q
      have q1 : a1.toInt = 2 := by rw [q]; decide
      refine j_tabIn (tgt := 111) K d_ErrataRow_count_1 (by rw [q1]; decide) (by rw [q1]; decide) (by rw [q1]; rfl) (by decide) ?_
      refine j_aload_n K 0 d_ErrataRow_count_111 rfl rfl ?_
      obtain ⟨q16, h⟩ := ck_e h
      refine eg_ErrataRow_world K ef_ErrataRow_45 q16 d_ErrataRow_count_112 ?_
      obtain ⟨o17, e17, h⟩ := bo_e h
      refine j_eqq e17 ?_
      obtain ⟨q18, h⟩ := ck_e h
      refine eg_World_book K ef_ErrataRow_62 q18 d_ErrataRow_count_115 ?_
      obtain ⟨o19, e19, h⟩ := bo_e h
      refine j_eqq e19 ?_
      obtain ⟨q20, h⟩ := ck_e h
      refine eg_Book_letters K ef_ErrataRow_123 q20 d_ErrataRow_count_118 ?_
      exact eret_i K h hr hlk d_ErrataRow_count_121
    have h := if_f h q
    by_cases q : a1 = 3
    · have h := if_t h q
      have q1 : a1.toInt = 3 := by rw [q]; decide
      refine j_tabIn (tgt := 122) K d_ErrataRow_count_1 (by rw [q1]; decide) (by rw [q1]; decide) (by rw [q1]; rfl) (by decide) ?_
      refine j_aload_n K 0 d_ErrataRow_count_122 rfl rfl ?_
      obtain ⟨q21, h⟩ := ck_e h
      refine eg_ErrataRow_ruleCount K ef_ErrataRow_128 q21 d_ErrataRow_count_123 ?_
      exact eret_i K h hr hlk d_ErrataRow_count_126
    have h := if_f h q
    by_cases q : a1 = 4
    · have h := if_t h q
      have q1 : a1.toInt = 4 := by rw [q]; decide
      refine j_tabIn (tgt := 127) K d_ErrataRow_count_1 (by rw [q1]; decide) (by rw [q1]; decide) (by rw [q1]; rfl) (by decide) ?_
      refine j_aload_n K 0 d_ErrataRow_count_127 rfl rfl ?_
      obtain ⟨q22, h⟩ := ck_e h
      refine eg_ErrataRow_world K ef_ErrataRow_45 q22 d_ErrataRow_count_128 ?_
      obtain ⟨o23, e23, h⟩ := bo_e h
      refine j_eqq e23 ?_
      obtain ⟨q24, h⟩ := ck_e h
      refine eg_World_inForce K ef_ErrataRow_138 q24 d_ErrataRow_count_131 ?_
      exact eret_i K h hr hlk d_ErrataRow_count_134
    have h := if_f h q
    by_cases q : a1 = 5
    · have h := if_t h q
      have q1 : a1.toInt = 5 := by rw [q]; decide
      refine j_tabIn (tgt := 135) K d_ErrataRow_count_1 (by rw [q1]; decide) (by rw [q1]; decide) (by rw [q1]; rfl) (by decide) ?_
      refine j_aload_n K 0 d_ErrataRow_count_135 rfl rfl ?_
      obtain ⟨q25, h⟩ := ck_e h
      refine eg_ErrataRow_world K ef_ErrataRow_45 q25 d_ErrataRow_count_136 ?_
      obtain ⟨o26, e26, h⟩ := bo_e h
      refine j_eqq e26 ?_
      obtain ⟨q27, h⟩ := ck_e h
      refine eg_World_now K ef_ErrataRow_145 q27 d_ErrataRow_count_139 ?_
      obtain ⟨o28, e28, h⟩ := bo_e h
      refine j_eqq e28 ?_
      obtain ⟨q29, h⟩ := ck_e h
      refine eg_State_edition K ef_ErrataRow_179 q29 d_ErrataRow_count_142 ?_
      exact eret_i K h hr hlk d_ErrataRow_count_145
    have h := if_f h q
    by_cases q : a1 = 6
    · have h := if_t h q
      have q1 : a1.toInt = 6 := by rw [q]; decide
      refine j_tabIn (tgt := 146) K d_ErrataRow_count_1 (by rw [q1]; decide) (by rw [q1]; decide) (by rw [q1]; rfl) (by decide) ?_
      refine j_aload_n K 0 d_ErrataRow_count_146 rfl rfl ?_
      obtain ⟨q30, h⟩ := ck_e h
      refine eg_ErrataRow_press K ef_ErrataRow_69 q30 d_ErrataRow_count_147 ?_
      obtain ⟨o31, e31, h⟩ := bo_e h
      refine j_eqq e31 ?_
      refine j_aload_n K 0 d_ErrataRow_count_150 rfl rfl ?_
      refine eg_ErrataRow_world K ef_ErrataRow_45 q30 d_ErrataRow_count_151 ?_
      obtain ⟨o32, e32, h⟩ := bo_e h
      refine j_eqq e32 ?_
      obtain ⟨q33, h⟩ := ck_e h
      refine eg_World_now K ef_ErrataRow_145 q33 d_ErrataRow_count_154 ?_
      obtain ⟨o34, e34, h⟩ := bo_e h
      refine j_eqq e34 ?_
      obtain ⟨q36, h⟩ := ck_e h
      obtain ⟨r35, κ35, e35, h⟩ := bd_e h
      refine ecallV_i K hN (c_Press_wrongOf_ok l D θ N o31 o34 κ _ e35) eG_ErrataRow_182 eh_Press_wrongOf (by decide) (rmA_ok (by decide) (by decide)) rfl q36 (by decide) rfl (st := []) (Nat.le_of_ble_eq_true rfl) rfl d_ErrataRow_count_157 ⟨Nat.le_of_ble_eq_true rfl, Nat.le_of_ble_eq_true rfl⟩ ?_
      exact eret_i K h hr hlk d_ErrataRow_count_160
    have h := if_f h q
    by_cases q : a1 = 7
    · have h := if_t h q
      have q1 : a1.toInt = 7 := by rw [q]; decide
      refine j_tabIn (tgt := 161) K d_ErrataRow_count_1 (by rw [q1]; decide) (by rw [q1]; decide) (by rw [q1]; rfl) (by decide) ?_
      refine j_aload_n K 0 d_ErrataRow_count_161 rfl rfl ?_
      obtain ⟨q37, h⟩ := ck_e h
      refine eg_ErrataRow_press K ef_ErrataRow_69 q37 d_ErrataRow_count_162 ?_
      obtain ⟨o38, e38, h⟩ := bo_e h
      refine j_eqq e38 ?_
      refine j_aload_n K 0 d_ErrataRow_count_165 rfl rfl ?_
      refine eg_ErrataRow_world K ef_ErrataRow_45 q37 d_ErrataRow_count_166 ?_
      obtain ⟨o39, e39, h⟩ := bo_e h
      refine j_eqq e39 ?_
      obtain ⟨q40, h⟩ := ck_e h
      refine eg_World_now K ef_ErrataRow_145 q40 d_ErrataRow_count_169 ?_
      obtain ⟨o41, e41, h⟩ := bo_e h
      refine j_eqq e41 ?_
      obtain ⟨q43, h⟩ := ck_e h
      obtain ⟨r42, κ42, e42, h⟩ := bd_e h
      refine ecallV_i K hN (c_Press_looseOf_ok l D θ N o38 o41 κ _ e42) eG_ErrataRow_186 eh_Press_looseOf (by decide) (rmA_ok (by decide) (by decide)) rfl q43 (by decide) rfl (st := []) (Nat.le_of_ble_eq_true rfl) rfl d_ErrataRow_count_172 ⟨Nat.le_of_ble_eq_true rfl, Nat.le_of_ble_eq_true rfl⟩ ?_
      exact eret_i K h hr hlk d_ErrataRow_count_175
    have h := if_f h q
    by_cases q : a1 = 8
    · have h := if_t h q
      have q1 : a1.toInt = 8 := by rw [q]; decide
      refine j_tabIn (tgt := 176) K d_ErrataRow_count_1 (by rw [q1]; decide) (by rw [q1]; decide) (by rw [q1]; rfl) (by decide) ?_
      refine j_aload_n K 0 d_ErrataRow_count_176 rfl rfl ?_
      obtain ⟨q44, h⟩ := ck_e h
      refine eg_ErrataRow_world K ef_ErrataRow_45 q44 d_ErrataRow_count_177 ?_
      obtain ⟨o45, e45, h⟩ := bo_e h
      refine j_eqq e45 ?_
      obtain ⟨q46, h⟩ := ck_e h
      refine eg_World_now K ef_ErrataRow_145 q46 d_ErrataRow_count_180 ?_
      obtain ⟨o47, e47, h⟩ := bo_e h
      refine j_eqq e47 ?_
      obtain ⟨q48, h⟩ := ck_e h
      refine eg_State_purse K ef_ErrataRow_189 q48 d_ErrataRow_count_183 ?_
      exact eret_i K h hr hlk d_ErrataRow_count_186
    have h := if_f h q
    by_cases q : a1 = 9
    · have h := if_t h q
      have q1 : a1.toInt = 9 := by rw [q]; decide
      refine j_tabIn (tgt := 187) K d_ErrataRow_count_1 (by rw [q1]; decide) (by rw [q1]; decide) (by rw [q1]; rfl) (by decide) ?_
      refine j_aload_n K 0 d_ErrataRow_count_187 rfl rfl ?_
      obtain ⟨q49, h⟩ := ck_e h
      refine eg_ErrataRow_world K ef_ErrataRow_45 q49 d_ErrataRow_count_188 ?_
      obtain ⟨o50, e50, h⟩ := bo_e h
      refine j_eqq e50 ?_
      obtain ⟨q51, h⟩ := ck_e h
      refine eg_World_now K ef_ErrataRow_145 q51 d_ErrataRow_count_191 ?_
      obtain ⟨o52, e52, h⟩ := bo_e h
      refine j_eqq e52 ?_
      obtain ⟨q53, h⟩ := ck_e h
      refine eg_State_owed K ef_ErrataRow_192 q53 d_ErrataRow_count_194 ?_
      exact eret_i K h hr hlk d_ErrataRow_count_197
    have h := if_f h q
    by_cases q : a1 = 10
    · have h := if_t h q
      have q1 : a1.toInt = 10 := by rw [q]; decide
      refine j_tabIn (tgt := 198) K d_ErrataRow_count_1 (by rw [q1]; decide) (by rw [q1]; decide) (by rw [q1]; rfl) (by decide) ?_
      refine j_aload_n K 0 d_ErrataRow_count_198 rfl rfl ?_
      obtain ⟨q54, h⟩ := ck_e h
      refine eg_ErrataRow_world K ef_ErrataRow_45 q54 d_ErrataRow_count_199 ?_
      obtain ⟨o55, e55, h⟩ := bo_e h
      refine j_eqq e55 ?_
      obtain ⟨q56, h⟩ := ck_e h
      refine eg_World_notes K ef_ErrataRow_195 q56 d_ErrataRow_count_202 ?_
      obtain ⟨o57, e57, h⟩ := bo_e h
      refine j_eqq e57 ?_
      obtain ⟨q58, h⟩ := ck_e h
      refine eg_Notes_size K ef_ErrataRow_199 q58 d_ErrataRow_count_205 ?_
      exact eret_i K h hr hlk d_ErrataRow_count_208
    have h := if_f h q
    by_cases q : a1 = 11
    · have h := if_t h q
      have q1 : a1.toInt = 11 := by rw [q]; decide
      refine j_tabIn (tgt := 209) K d_ErrataRow_count_1 (by rw [q1]; decide) (by rw [q1]; decide) (by rw [q1]; rfl) (by decide) ?_
      refine j_aload_n K 0 d_ErrataRow_count_209 rfl rfl ?_
      obtain ⟨q59, h⟩ := ck_e h
      refine eg_ErrataRow_history K ef_ErrataRow_56 q59 d_ErrataRow_count_210 ?_
      obtain ⟨o60, e60, h⟩ := bo_e h
      refine j_eqq e60 ?_
      obtain ⟨q61, h⟩ := ck_e h
      refine eg_History_size K ef_ErrataRow_204 q61 d_ErrataRow_count_213 ?_
      exact eret_i K h hr hlk d_ErrataRow_count_216
    have h := if_f h q
    by_cases q : a1 = 12
    · have h := if_t h q
      have q1 : a1.toInt = 12 := by rw [q]; decide
      refine j_tabIn (tgt := 217) K d_ErrataRow_count_1 (by rw [q1]; decide) (by rw [q1]; decide) (by rw [q1]; rfl) (by decide) ?_
      refine j_aload_n K 0 d_ErrataRow_count_217 rfl rfl ?_
      obtain ⟨q62, h⟩ := ck_e h
      refine eg_ErrataRow_world K ef_ErrataRow_45 q62 d_ErrataRow_count_218 ?_
      obtain ⟨o63, e63, h⟩ := bo_e h
      refine j_eqq e63 ?_
      obtain ⟨q64, h⟩ := ck_e h
      refine eg_World_x K ef_ErrataRow_205 q64 d_ErrataRow_count_221 ?_
      exact eret_i K h hr hlk d_ErrataRow_count_224
    have h := if_f h q
    by_cases q : a1 = 13
    · have h := if_t h q
      have q1 : a1.toInt = 13 := by rw [q]; decide
      refine j_tabIn (tgt := 225) K d_ErrataRow_count_1 (by rw [q1]; decide) (by rw [q1]; decide) (by rw [q1]; rfl) (by decide) ?_
      refine j_aload_n K 0 d_ErrataRow_count_225 rfl rfl ?_
      obtain ⟨q65, h⟩ := ck_e h
      refine eg_ErrataRow_tapeLength K ef_ErrataRow_98 q65 d_ErrataRow_count_226 ?_
      exact eret_i K h hr hlk d_ErrataRow_count_229
    have h := if_f h q
    exact absurd h (by simp)
def p_ErrataRow_back (N : Nat) (this : Nat) (a1 : Int32) (κ : Cz) : Option (Int32 × Cz) := bd (p_ErrataRow_within N a1 0 3 κ) (fun r1 κ1 => if r1 = 0 then some ((-1), κ1) else ck (isK κ1 this 11) (bo (fr κ1 this 8) (fun o3 => ck (isK κ1 o3 24) (ck (inb a1 (ln κ1 o3)) (oc (aq κ1 o3 a1.toNatClampNeg) (some ((-1), κ1)) (fun o6 => bo (fr κ1 this 7) (fun o7 => ck (isK κ1 o7 10) (bo (p_World_copyFrom N o7 o6 κ1) (fun κ8 => ck (isK κ8 this 11) (bo (fr κ8 this 9) (fun o11 => ck (isK κ8 o11 2) (bo (p_History_forget N o11 κ8) (fun κ12 => ck (isK κ12 this 11) (bo (fr κ12 this 7) (fun o15 => ck (isK κ12 o15 10) (bo (fr κ12 o15 1) (fun o17 => ck (isK κ12 o17 8) (some (fi κ12 o17 5, κ12)))))))))))))))))))
set_option maxHeartbeats 4000000 in
set_option maxRecDepth 100000 in
theorem c_ErrataRow_back_ok (l : Launch) (D : va_G) (θ : Tc) (N : Nat) (this : Nat) (a1 : Int32) (κ : Cz) (ρ : Int32 × Cz) (h : p_ErrataRow_back N this a1 κ = some ρ) : CEi l D θ y_ErrataRow_back c_ErrataRow_back 3 (some .int) 4 0 0 [.ref this, .int a1] κ ρ := by
  intro sz
  refine e_met l [.ref this, .int a1] (by decide +kernel) (Nat.le_of_ble_eq_true rfl) ?_
  intro p e s m args below meth c K hN hr hlk hnm hs
  generalize va_A (wE θ κ) sz = A at K ⊢
  have K : KE p s m args c c_ErrataRow_back 3 "ErrataRow" y_ErrataRow_back (some .int) D θ A := K
  show JE p l e (rmA 4 0 0) s m args below meth c D θ A 3 0 0 (QEi below args s D θ A 0 0 ρ) κ [(0, .ref this), (1, .int a1)] [] 0
  unfold p_ErrataRow_back at h
  refine j_iload_n K 1 d_ErrataRow_back_0 rfl rfl ?_
  refine j_iconst (v := 0) K d_ErrataRow_back_1 (by decide) ?_
  refine j_iconst (v := 3) K d_ErrataRow_back_2 (by decide) ?_
  obtain ⟨r1, κ1, e1, h⟩ := bd_e h
  refine ecallS_i K hN (c_ErrataRow_within_ok l D θ N a1 0 3 κ _ e1) eG_ErrataRow_166 eh_ErrataRow_within (by decide) (rmA_ok (by decide) (by decide)) rfl (st := []) (Nat.le_of_ble_eq_true rfl) rfl d_ErrataRow_back_3 ⟨Nat.le_of_ble_eq_true rfl, Nat.le_of_ble_eq_true rfl⟩ ?_
  refine j_if_ne (tgt := 11) K d_ErrataRow_back_6 (by decide) (fun q => ?_) (fun q => ?_)
  · have h := if_f h q
    refine j_aload_n K 0 d_ErrataRow_back_11 rfl rfl ?_
    obtain ⟨q2, h⟩ := ck_e h
    refine eg_ErrataRow_images K ef_ErrataRow_49 q2 d_ErrataRow_back_12 ?_
    obtain ⟨o3, e3, h⟩ := bo_e h
    refine j_eqq e3 ?_
    refine j_iload_n K 1 d_ErrataRow_back_15 rfl rfl ?_
    obtain ⟨q4, h⟩ := ck_e h
    obtain ⟨q5, h⟩ := ck_e h
    refine e_ald_World K q4 (inb_e q5) d_ErrataRow_back_16 ?_
    rcases oc_e h with ⟨e6, h⟩ | ⟨o6, e6, h⟩
    · refine j_eqn e6 ?_
      refine e_astore_nN (lv' := [(2, .null), (0, .ref this), (1, .int a1)]) K d_ErrataRow_back_17 rfl (by decide) rfl ?_
      refine e_aload_nN K 0 d_ErrataRow_back_18 rfl rfl ?_
      refine e_ifnonnullN K d_ErrataRow_back_19 ?_
      refine j_iconst (v := (-1)) K d_ErrataRow_back_22 (by decide) ?_
      exact eret_i K h hr hlk d_ErrataRow_back_23
    · refine j_eqq e6 ?_
      refine j_astore_n (lv' := [(2, .ref o6), (0, .ref this), (1, .int a1)]) K d_ErrataRow_back_17 rfl (by decide) rfl ?_
      refine j_aload_n K 0 d_ErrataRow_back_18 rfl rfl ?_
      refine e_ifnonnull (tgt := 24) K d_ErrataRow_back_19 (by decide) ?_
      refine j_aload_n K 1 d_ErrataRow_back_24 rfl rfl ?_
      refine eg_ErrataRow_world K ef_ErrataRow_45 q2 d_ErrataRow_back_25 ?_
      obtain ⟨o7, e7, h⟩ := bo_e h
      refine j_eqq e7 ?_
      refine j_aload_n K 0 d_ErrataRow_back_28 rfl rfl ?_
      obtain ⟨q9, h⟩ := ck_e h
      obtain ⟨κ8, e8, h⟩ := bo_e h
      refine ecallV_v K hN (c_World_copyFrom_ok l D θ N o7 o6 κ1 _ e8) eG_ErrataRow_371 eh_World_copyFrom (by decide) (rmA_ok (by decide) (by decide)) rfl q9 (by decide) rfl (st := []) (Nat.le_of_ble_eq_true rfl) rfl d_ErrataRow_back_29 ⟨Nat.le_of_ble_eq_true rfl, Nat.le_of_ble_eq_true rfl⟩ ?_
      refine j_aload_n K 1 d_ErrataRow_back_32 rfl rfl ?_
      obtain ⟨q10, h⟩ := ck_e h
      refine eg_ErrataRow_history K ef_ErrataRow_56 q10 d_ErrataRow_back_33 ?_
      obtain ⟨o11, e11, h⟩ := bo_e h
      refine j_eqq e11 ?_
      obtain ⟨q13, h⟩ := ck_e h
      obtain ⟨κ12, e12, h⟩ := bo_e h
      refine ecallV_v K hN (c_History_forget_ok l D θ N o11 κ8 _ e12) eG_ErrataRow_120 eh_History_forget (by decide) (rmA_ok (by decide) (by decide)) rfl q13 (by decide) rfl (st := []) (Nat.le_of_ble_eq_true rfl) rfl d_ErrataRow_back_36 ⟨Nat.le_of_ble_eq_true rfl, Nat.le_of_ble_eq_true rfl⟩ ?_
      refine j_aload_n K 1 d_ErrataRow_back_39 rfl rfl ?_
      obtain ⟨q14, h⟩ := ck_e h
      refine eg_ErrataRow_world K ef_ErrataRow_45 q14 d_ErrataRow_back_40 ?_
      obtain ⟨o15, e15, h⟩ := bo_e h
      refine j_eqq e15 ?_
      obtain ⟨q16, h⟩ := ck_e h
      refine eg_World_now K ef_ErrataRow_145 q16 d_ErrataRow_back_43 ?_
      obtain ⟨o17, e17, h⟩ := bo_e h
      refine j_eqq e17 ?_
      obtain ⟨q18, h⟩ := ck_e h
      refine eg_State_edition K ef_ErrataRow_179 q18 d_ErrataRow_back_46 ?_
      exact eret_i K h hr hlk d_ErrataRow_back_49
  · have h := if_t h q
    refine j_iconst (v := (-1)) K d_ErrataRow_back_9 (by decide) ?_
    exact eret_i K h hr hlk d_ErrataRow_back_10
def b_BookReader_readBook_9 (N : Nat) : Nat → Nat → Int32 → Cz → Option (Int32 × Cz)
  | 0, _, _, _ => none
  | n + 1, x0, x1, κ => if 40 < x1 then ck (isK κ x0 1) (bo (fr κ x0 0) (fun o6 => ck (isK κ o6 9) (some (fi κ o6 7, κ)))) else ck (isK κ x0 1) (bo (p_BookReader_readClause N x0 x1 κ) (fun κ8 => ck (isK κ8 x0 1) (bo (fr κ8 x0 0) (fun o11 => ck (isK κ8 o11 9) (if (fi κ8 o11 5) = 0 then bo (fr κ8 x0 1) (fun o22 => ck (isK κ8 o22 0) (lt (sfi o22 0 1 κ8) (fun κ24 => some (0, κ24)))) else bo (fr κ8 x0 0) (fun o13 => ck (isK κ8 o13 9) (bo (p_Tokens_takeSign N o13 59 κ8) (fun κ14 => ck (isK κ14 x0 1) (bo (fr κ14 x0 0) (fun o17 => ck (isK κ14 o17 9) (if (fi κ14 o17 7) = 0 then lt (x1 + 1) (fun v19 => b_BookReader_readBook_9 N n x0 v19 κ14) else bo (fr κ14 x0 0) (fun o20 => ck (isK κ14 o20 9) (some (fi κ14 o20 7, κ14))))))))))))))
set_option maxHeartbeats 4000000 in
set_option maxRecDepth 100000 in
theorem t_BookReader_readBook_9 {p : Program} {l : Launch} {e : Env} {s : State} {m : MethodId} {args : Array Value} {below : List Frame} {meth : Method} {c : Code} {D : va_G} {θ : Tc} {A : Nat → Prop} (K : KE p s m args c c_BookReader_readBook 2 "ErrataRow$BookReader" y_BookReader_readBook (some .int) D θ A) (hN : NX s) (hr : meth.sig.returnType = (some .int)) (hlk : meth.locks = false) (N : Nat) (ρ : Int32 × Cz) : ∀ (n : Nat) (x0 : Nat) (x1 : Int32) (κ : Cz), b_BookReader_readBook_9 N n x0 x1 κ = some ρ → JE p l e (rmA 5 0 0) s m args below meth c D θ A 2 0 0 (QEi below args s D θ A 0 0 ρ) κ [(0, .ref x0), (1, .int x1)] [] 9 := by
  intro n
  induction n with
  | zero =>
    intro x0 x1 κ h
    exact absurd h (by simp [b_BookReader_readBook_9])
  | succ n ih =>
    intro x0 x1 κ h
    rw [b_BookReader_readBook_9] at h
    refine j_iload_n K 1 d_BookReader_readBook_9 rfl rfl ?_
    refine j_bipush (v := 40) K d_BookReader_readBook_10 (by decide) ?_
    refine j_icmp_gt (tgt := 68) K d_BookReader_readBook_12 (by decide) (fun q => ?_) (fun q => ?_)
    · have h := if_t h q
      refine j_aload_n K 0 d_BookReader_readBook_68 rfl rfl ?_
      obtain ⟨q5, h⟩ := ck_e h
      refine eg_BookReader_tokens K ef_BookReader_18 q5 d_BookReader_readBook_69 ?_
      obtain ⟨o6, e6, h⟩ := bo_e h
      refine j_eqq e6 ?_
      obtain ⟨q7, h⟩ := ck_e h
      refine eg_Tokens_fault K ef_BookReader_41 q7 d_BookReader_readBook_72 ?_
      exact eret_i K h hr hlk d_BookReader_readBook_75
    · have h := if_f h q
      refine j_aload_n K 0 d_BookReader_readBook_15 rfl rfl ?_
      refine j_iload_n K 1 d_BookReader_readBook_16 rfl rfl ?_
      obtain ⟨q9, h⟩ := ck_e h
      obtain ⟨κ8, e8, h⟩ := bo_e h
      refine ecallV_v K hN (c_BookReader_readClause_ok l D θ N x0 x1 κ _ e8) eG_BookReader_25 eh_BookReader_readClause (by decide) (rmA_ok (by decide) (by decide)) rfl q9 (by decide) rfl (st := []) (Nat.le_of_ble_eq_true rfl) rfl d_BookReader_readBook_17 ⟨Nat.le_of_ble_eq_true rfl, Nat.le_of_ble_eq_true rfl⟩ ?_
      refine j_aload_n K 0 d_BookReader_readBook_20 rfl rfl ?_
      obtain ⟨q10, h⟩ := ck_e h
      refine eg_BookReader_tokens K ef_BookReader_18 q10 d_BookReader_readBook_21 ?_
      obtain ⟨o11, e11, h⟩ := bo_e h
      refine j_eqq e11 ?_
      obtain ⟨q12, h⟩ := ck_e h
      refine eg_Tokens_kind K ef_BookReader_29 q12 d_BookReader_readBook_24 ?_
      refine j_if_ne (tgt := 40) K d_BookReader_readBook_27 (by decide) (fun q => ?_) (fun q => ?_)
      · have h := if_f h q
        refine j_aload_n K 0 d_BookReader_readBook_40 rfl rfl ?_
        refine eg_BookReader_tokens K ef_BookReader_18 q10 d_BookReader_readBook_41 ?_
        obtain ⟨o13, e13, h⟩ := bo_e h
        refine j_eqq e13 ?_
        refine j_bipush (v := 59) K d_BookReader_readBook_44 (by decide) ?_
        obtain ⟨q15, h⟩ := ck_e h
        obtain ⟨κ14, e14, h⟩ := bo_e h
        refine ecallV_v K hN (c_Tokens_takeSign_ok l D θ N o13 59 κ8 _ e14) eG_BookReader_38 eh_Tokens_takeSign (by decide) (rmA_ok (by decide) (by decide)) rfl q15 (by decide) rfl (st := []) (Nat.le_of_ble_eq_true rfl) rfl d_BookReader_readBook_46 ⟨Nat.le_of_ble_eq_true rfl, Nat.le_of_ble_eq_true rfl⟩ ?_
        refine j_aload_n K 0 d_BookReader_readBook_49 rfl rfl ?_
        obtain ⟨q16, h⟩ := ck_e h
        refine eg_BookReader_tokens K ef_BookReader_18 q16 d_BookReader_readBook_50 ?_
        obtain ⟨o17, e17, h⟩ := bo_e h
        refine j_eqq e17 ?_
        obtain ⟨q18, h⟩ := ck_e h
        refine eg_Tokens_fault K ef_BookReader_41 q18 d_BookReader_readBook_53 ?_
        refine j_if_eq (tgt := 62) K d_BookReader_readBook_56 (by decide) (fun q => ?_) (fun q => ?_)
        · have h := if_t h q
          obtain ⟨v19, e19, h⟩ := lt_e h
          refine j_iinc (k := 1) (v := v19) (lv' := [(1, .int v19), (0, .ref x0)]) K d_BookReader_readBook_62 rfl (by rw [e19]; rfl) (by decide) rfl ?_
          refine j_goto (tgt := 9) K d_BookReader_readBook_65 (by decide) ?_
          refine j_sub [1, 0] rfl ?_
          exact ih x0 v19 κ14 h
        · have h := if_f h q
          refine j_goto (tgt := 68) K d_BookReader_readBook_59 (by decide) ?_
          refine j_aload_n K 0 d_BookReader_readBook_68 rfl rfl ?_
          refine eg_BookReader_tokens K ef_BookReader_18 q16 d_BookReader_readBook_69 ?_
          obtain ⟨o20, e20, h⟩ := bo_e h
          refine j_eqq e20 ?_
          obtain ⟨q21, h⟩ := ck_e h
          refine eg_Tokens_fault K ef_BookReader_41 q21 d_BookReader_readBook_72 ?_
          exact eret_i K h hr hlk d_BookReader_readBook_75
      · have h := if_t h q
        refine j_aload_n K 0 d_BookReader_readBook_30 rfl rfl ?_
        refine eg_BookReader_told K ef_BookReader_12 q10 d_BookReader_readBook_31 ?_
        obtain ⟨o22, e22, h⟩ := bo_e h
        refine j_eqq e22 ?_
        refine j_iconst (v := 1) K d_BookReader_readBook_34 (by decide) ?_
        obtain ⟨q23, h⟩ := ck_e h
        obtain ⟨κ24, e24, h⟩ := lt_e h
        refine ep_Book_told K (by decide) ef_BookReader_35 q23 d_BookReader_readBook_35 e24 ?_
        refine j_iconst (v := 0) K d_BookReader_readBook_38 (by decide) ?_
        exact eret_i K h hr hlk d_BookReader_readBook_39
def p_BookReader_readBook (N : Nat) (this : Nat) (κ : Cz) : Option (Int32 × Cz) := ck (isK κ this 1) (bo (fr κ this 1) (fun o2 => ck (isK κ o2 0) (bo (p_Book_clear N o2 κ) (fun κ3 => b_BookReader_readBook_9 N N this 0 κ3))))
set_option maxHeartbeats 4000000 in
set_option maxRecDepth 100000 in
theorem c_BookReader_readBook_ok (l : Launch) (D : va_G) (θ : Tc) (N : Nat) (this : Nat) (κ : Cz) (ρ : Int32 × Cz) (h : p_BookReader_readBook N this κ = some ρ) : CEi l D θ y_BookReader_readBook c_BookReader_readBook 2 (some .int) 5 0 0 [.ref this] κ ρ := by
  intro sz
  refine e_met l [.ref this] (by decide +kernel) (Nat.le_of_ble_eq_true rfl) ?_
  intro p e s m args below meth c K hN hr hlk hnm hs
  generalize va_A (wE θ κ) sz = A at K ⊢
  have K : KE p s m args c c_BookReader_readBook 2 "ErrataRow$BookReader" y_BookReader_readBook (some .int) D θ A := K
  show JE p l e (rmA 5 0 0) s m args below meth c D θ A 2 0 0 (QEi below args s D θ A 0 0 ρ) κ [(0, .ref this)] [] 0
  unfold p_BookReader_readBook at h
  refine j_aload_n K 0 d_BookReader_readBook_0 rfl rfl ?_
  obtain ⟨q1, h⟩ := ck_e h
  refine eg_BookReader_told K ef_BookReader_12 q1 d_BookReader_readBook_1 ?_
  obtain ⟨o2, e2, h⟩ := bo_e h
  refine j_eqq e2 ?_
  obtain ⟨q4, h⟩ := ck_e h
  obtain ⟨κ3, e3, h⟩ := bo_e h
  refine ecallV_v K hN (c_Book_clear_ok l D θ N o2 κ _ e3) eG_BookReader_22 eh_Book_clear (by decide) (rmA_ok (by decide) (by decide)) rfl q4 (by decide) rfl (st := []) (Nat.le_of_ble_eq_true rfl) rfl d_BookReader_readBook_4 ⟨Nat.le_of_ble_eq_true rfl, Nat.le_of_ble_eq_true rfl⟩ ?_
  refine j_iconst (v := 0) K d_BookReader_readBook_7 (by decide) ?_
  refine j_istore_n (lv' := [(1, .int 0), (0, .ref this)]) K d_BookReader_readBook_8 rfl (by decide) rfl ?_
  refine j_sub [1, 0] rfl ?_
  exact t_BookReader_readBook_9 K hN hr hlk N ρ N this 0 κ3 h
def p_Press_printEdition (N : Nat) (this : Nat) (a1 : Nat) (κ : Cz) : Option (Int32 × Cz) := ck (isK κ this 4) (bd (p_Press_chosen N this a1 κ) (fun r1 κ1 => ck (isK κ1 this 4) (bo (p_Press_printWith N this a1 r1 κ1) (fun κ3 => some (r1, κ3)))))
set_option maxHeartbeats 4000000 in
set_option maxRecDepth 100000 in
theorem c_Press_printEdition_ok (l : Launch) (D : va_G) (θ : Tc) (N : Nat) (this : Nat) (a1 : Nat) (κ : Cz) (ρ : Int32 × Cz) (h : p_Press_printEdition N this a1 κ = some ρ) : CEi l D θ y_Press_printEdition c_Press_printEdition 3 (some .int) 5 0 0 [.ref this, .ref a1] κ ρ := by
  intro sz
  refine e_met l [.ref this, .ref a1] (by decide +kernel) (Nat.le_of_ble_eq_true rfl) ?_
  intro p e s m args below meth c K hN hr hlk hnm hs
  generalize va_A (wE θ κ) sz = A at K ⊢
  have K : KE p s m args c c_Press_printEdition 3 "ErrataRow$Press" y_Press_printEdition (some .int) D θ A := K
  show JE p l e (rmA 5 0 0) s m args below meth c D θ A 3 0 0 (QEi below args s D θ A 0 0 ρ) κ [(0, .ref this), (1, .ref a1)] [] 0
  unfold p_Press_printEdition at h
  refine j_aload_n K 0 d_Press_printEdition_0 rfl rfl ?_
  refine j_aload_n K 1 d_Press_printEdition_1 rfl rfl ?_
  obtain ⟨q2, h⟩ := ck_e h
  obtain ⟨r1, κ1, e1, h⟩ := bd_e h
  refine ecallV_i K hN (c_Press_chosen_ok l D θ N this a1 κ _ e1) eG_Press_60 eh_Press_chosen (by decide) (rmA_ok (by decide) (by decide)) rfl q2 (by decide) rfl (st := []) (Nat.le_of_ble_eq_true rfl) rfl d_Press_printEdition_2 ⟨Nat.le_of_ble_eq_true rfl, Nat.le_of_ble_eq_true rfl⟩ ?_
  refine j_istore_n (lv' := [(2, .int r1), (0, .ref this), (1, .ref a1)]) K d_Press_printEdition_5 rfl (by decide) rfl ?_
  refine j_aload_n K 1 d_Press_printEdition_6 rfl rfl ?_
  refine j_aload_n K 2 d_Press_printEdition_7 rfl rfl ?_
  refine j_iload_n K 0 d_Press_printEdition_8 rfl rfl ?_
  obtain ⟨q4, h⟩ := ck_e h
  obtain ⟨κ3, e3, h⟩ := bo_e h
  refine ecallV_v K hN (c_Press_printWith_ok l D θ N this a1 r1 κ1 _ e3) eG_Press_63 eh_Press_printWith (by decide) (rmA_ok (by decide) (by decide)) rfl q4 (by decide) rfl (st := []) (Nat.le_of_ble_eq_true rfl) rfl d_Press_printEdition_9 ⟨Nat.le_of_ble_eq_true rfl, Nat.le_of_ble_eq_true rfl⟩ ?_
  refine j_iload_n K 0 d_Press_printEdition_12 rfl rfl ?_
  exact eret_i K h hr hlk d_Press_printEdition_13
def b_ErrataRow_goOn_2 (N : Nat) : Nat → Nat → Int32 → Int32 → Cz → Option (Cz)
  | 0, _, _, _, _ => none
  | n + 1, x0, x1, x2, κ => if x1 ≤ x2 then some κ else ck (isK κ x0 11) (bo (fr κ x0 10) (fun o2 => bo (fr κ x0 12) (fun o3 => ck (isK κ o2 4) (bd (p_Press_printEdition N o2 o3 κ) (fun r4 κ4 => lt (x2 + 1) (fun v6 => b_ErrataRow_goOn_2 N n x0 x1 v6 κ4))))))
set_option maxHeartbeats 4000000 in
set_option maxRecDepth 100000 in
theorem t_ErrataRow_goOn_2 {p : Program} {l : Launch} {e : Env} {s : State} {m : MethodId} {args : Array Value} {below : List Frame} {meth : Method} {c : Code} {D : va_G} {θ : Tc} {A : Nat → Prop} (K : KE p s m args c c_ErrataRow_goOn 3 "ErrataRow" y_ErrataRow_goOn none D θ A) (hN : NX s) (hr : meth.sig.returnType = none) (hlk : meth.locks = false) (N : Nat) (ρ : Cz) : ∀ (n : Nat) (x0 : Nat) (x1 : Int32) (x2 : Int32) (κ : Cz), b_ErrataRow_goOn_2 N n x0 x1 x2 κ = some ρ → JE p l e (rmA 6 0 0) s m args below meth c D θ A 3 0 0 (QEv below args s D θ A 0 0 ρ) κ [(0, .ref x0), (1, .int x1), (2, .int x2)] [] 2 := by
  intro n
  induction n with
  | zero =>
    intro x0 x1 x2 κ h
    exact absurd h (by simp [b_ErrataRow_goOn_2])
  | succ n ih =>
    intro x0 x1 x2 κ h
    rw [b_ErrataRow_goOn_2] at h
    refine j_iload_n K 2 d_ErrataRow_goOn_2 rfl rfl ?_
    refine j_iload_n K 1 d_ErrataRow_goOn_3 rfl rfl ?_
    refine j_icmp_ge (tgt := 25) K d_ErrataRow_goOn_4 (by decide) (fun q => ?_) (fun q => ?_)
    · have h := if_t h q
      exact eret_v K h hr hlk d_ErrataRow_goOn_25
    · have h := if_f h q
      refine j_aload_n K 0 d_ErrataRow_goOn_7 rfl rfl ?_
      obtain ⟨q1, h⟩ := ck_e h
      refine eg_ErrataRow_press K ef_ErrataRow_69 q1 d_ErrataRow_goOn_8 ?_
      obtain ⟨o2, e2, h⟩ := bo_e h
      refine j_eqq e2 ?_
      refine j_aload_n K 0 d_ErrataRow_goOn_11 rfl rfl ?_
      refine eg_ErrataRow_trial K ef_ErrataRow_85 q1 d_ErrataRow_goOn_12 ?_
      obtain ⟨o3, e3, h⟩ := bo_e h
      refine j_eqq e3 ?_
      obtain ⟨q5, h⟩ := ck_e h
      obtain ⟨r4, κ4, e4, h⟩ := bd_e h
      refine ecallV_i K hN (c_Press_printEdition_ok l D θ N o2 o3 κ _ e4) eG_ErrataRow_215 eh_Press_printEdition (by decide) (rmA_ok (by decide) (by decide)) rfl q5 (by decide) rfl (st := []) (Nat.le_of_ble_eq_true rfl) rfl d_ErrataRow_goOn_15 ⟨Nat.le_of_ble_eq_true rfl, Nat.le_of_ble_eq_true rfl⟩ ?_
      refine j_pop K d_ErrataRow_goOn_18 rfl ?_
      obtain ⟨v6, e6, h⟩ := lt_e h
      refine j_iinc (k := 2) (v := v6) (lv' := [(2, .int v6), (0, .ref x0), (1, .int x1)]) K d_ErrataRow_goOn_19 rfl (by rw [e6]; rfl) (by decide) rfl ?_
      refine j_goto (tgt := 2) K d_ErrataRow_goOn_22 (by decide) ?_
      refine j_sub [1, 2, 0] rfl ?_
      exact ih x0 x1 v6 κ4 h
def p_ErrataRow_goOn (N : Nat) (this : Nat) (a1 : Int32) (κ : Cz) : Option (Cz) := b_ErrataRow_goOn_2 N N this a1 0 κ
set_option maxHeartbeats 4000000 in
set_option maxRecDepth 100000 in
theorem c_ErrataRow_goOn_ok (l : Launch) (D : va_G) (θ : Tc) (N : Nat) (this : Nat) (a1 : Int32) (κ : Cz) (ρ : Cz) (h : p_ErrataRow_goOn N this a1 κ = some ρ) : CEv l D θ y_ErrataRow_goOn c_ErrataRow_goOn 3 none 6 0 0 [.ref this, .int a1] κ ρ := by
  intro sz
  refine e_met l [.ref this, .int a1] (by decide +kernel) (Nat.le_of_ble_eq_true rfl) ?_
  intro p e s m args below meth c K hN hr hlk hnm hs
  generalize va_A (wE θ κ) sz = A at K ⊢
  have K : KE p s m args c c_ErrataRow_goOn 3 "ErrataRow" y_ErrataRow_goOn none D θ A := K
  show JE p l e (rmA 6 0 0) s m args below meth c D θ A 3 0 0 (QEv below args s D θ A 0 0 ρ) κ [(0, .ref this), (1, .int a1)] [] 0
  unfold p_ErrataRow_goOn at h
  refine j_iconst (v := 0) K d_ErrataRow_goOn_0 (by decide) ?_
  refine j_istore_n (lv' := [(2, .int 0), (0, .ref this), (1, .int a1)]) K d_ErrataRow_goOn_1 rfl (by decide) rfl ?_
  refine j_sub [1, 2, 0] rfl ?_
  exact t_ErrataRow_goOn_2 K hN hr hlk N ρ N this a1 0 κ h
def b_ErrataRow_firstWithoutWrong_13 (N : Nat) : Nat → Nat → Int32 → Int32 → Cz → Option (Int32 × Cz)
  | 0, _, _, _, _ => none
  | n + 1, x0, x1, x2, κ => if 200 ≤ x2 then some ((-2), κ) else ck (isK κ x0 11) (bo (fr κ x0 12) (fun o7 => ck (isK κ o7 8) (lt (fi κ o7 5) (fun v9 => bo (fr κ x0 10) (fun o10 => bo (fr κ x0 12) (fun o11 => ck (isK κ o10 4) (bd (p_Press_printEdition N o10 o11 κ) (fun r12 κ12 => ck (isK κ12 x0 11) (bo (fr κ12 x0 10) (fun o15 => bo (fr κ12 x0 12) (fun o16 => ck (isK κ12 o15 4) (bd (p_Press_wrongOf N o15 o16 κ12) (fun r17 κ17 => if (r17 &&& x1) = 0 then some (v9, κ17) else lt (x2 + 1) (fun v19 => b_ErrataRow_firstWithoutWrong_13 N n x0 x1 v19 κ17))))))))))))))
set_option maxHeartbeats 4000000 in
set_option maxRecDepth 100000 in
theorem t_ErrataRow_firstWithoutWrong_13 {p : Program} {l : Launch} {e : Env} {s : State} {m : MethodId} {args : Array Value} {below : List Frame} {meth : Method} {c : Code} {D : va_G} {θ : Tc} {A : Nat → Prop} (K : KE p s m args c c_ErrataRow_firstWithoutWrong 4 "ErrataRow" y_ErrataRow_firstWithoutWrong (some .int) D θ A) (hN : NX s) (hr : meth.sig.returnType = (some .int)) (hlk : meth.locks = false) (N : Nat) (ρ : Int32 × Cz) : ∀ (n : Nat) (x0 : Nat) (x1 : Int32) (x2 : Int32) (κ : Cz), b_ErrataRow_firstWithoutWrong_13 N n x0 x1 x2 κ = some ρ → JE p l e (rmA 6 0 0) s m args below meth c D θ A 4 0 0 (QEi below args s D θ A 0 0 ρ) κ [(0, .ref x0), (1, .int x1), (2, .int x2)] [] 13 := by
  intro n
  induction n with
  | zero =>
    intro x0 x1 x2 κ h
    exact absurd h (by simp [b_ErrataRow_firstWithoutWrong_13])
  | succ n ih =>
    intro x0 x1 x2 κ h
    rw [b_ErrataRow_firstWithoutWrong_13] at h
    refine j_iload_n K 2 d_ErrataRow_firstWithoutWrong_13 rfl rfl ?_
    refine j_sipush (v := 200) K d_ErrataRow_firstWithoutWrong_14 (by decide) ?_
    refine j_icmp_ge (tgt := 64) K d_ErrataRow_firstWithoutWrong_17 (by decide) (fun q => ?_) (fun q => ?_)
    · have h := if_t h q
      refine j_bipush (v := (-2)) K d_ErrataRow_firstWithoutWrong_64 (by decide) ?_
      exact eret_i K h hr hlk d_ErrataRow_firstWithoutWrong_66
    · have h := if_f h q
      refine j_aload_n K 0 d_ErrataRow_firstWithoutWrong_20 rfl rfl ?_
      obtain ⟨q6, h⟩ := ck_e h
      refine eg_ErrataRow_trial K ef_ErrataRow_85 q6 d_ErrataRow_firstWithoutWrong_21 ?_
      obtain ⟨o7, e7, h⟩ := bo_e h
      refine j_eqq e7 ?_
      obtain ⟨q8, h⟩ := ck_e h
      refine eg_State_edition K ef_ErrataRow_179 q8 d_ErrataRow_firstWithoutWrong_24 ?_
      obtain ⟨v9, e9, h⟩ := lt_e h
      refine j_eqi e9 ?_
      refine j_istore_n (lv' := [(3, .int v9), (0, .ref x0), (1, .int x1), (2, .int x2)]) K d_ErrataRow_firstWithoutWrong_27 rfl (by decide) rfl ?_
      refine j_aload_n K 1 d_ErrataRow_firstWithoutWrong_28 rfl rfl ?_
      refine eg_ErrataRow_press K ef_ErrataRow_69 q6 d_ErrataRow_firstWithoutWrong_29 ?_
      obtain ⟨o10, e10, h⟩ := bo_e h
      refine j_eqq e10 ?_
      refine j_aload_n K 1 d_ErrataRow_firstWithoutWrong_32 rfl rfl ?_
      refine eg_ErrataRow_trial K ef_ErrataRow_85 q6 d_ErrataRow_firstWithoutWrong_33 ?_
      obtain ⟨o11, e11, h⟩ := bo_e h
      refine j_eqq e11 ?_
      obtain ⟨q13, h⟩ := ck_e h
      obtain ⟨r12, κ12, e12, h⟩ := bd_e h
      refine ecallV_i K hN (c_Press_printEdition_ok l D θ N o10 o11 κ _ e12) eG_ErrataRow_215 eh_Press_printEdition (by decide) (rmA_ok (by decide) (by decide)) rfl q13 (by decide) rfl (st := []) (Nat.le_of_ble_eq_true rfl) rfl d_ErrataRow_firstWithoutWrong_36 ⟨Nat.le_of_ble_eq_true rfl, Nat.le_of_ble_eq_true rfl⟩ ?_
      refine j_pop K d_ErrataRow_firstWithoutWrong_39 rfl ?_
      refine j_aload_n K 1 d_ErrataRow_firstWithoutWrong_40 rfl rfl ?_
      obtain ⟨q14, h⟩ := ck_e h
      refine eg_ErrataRow_press K ef_ErrataRow_69 q14 d_ErrataRow_firstWithoutWrong_41 ?_
      obtain ⟨o15, e15, h⟩ := bo_e h
      refine j_eqq e15 ?_
      refine j_aload_n K 1 d_ErrataRow_firstWithoutWrong_44 rfl rfl ?_
      refine eg_ErrataRow_trial K ef_ErrataRow_85 q14 d_ErrataRow_firstWithoutWrong_45 ?_
      obtain ⟨o16, e16, h⟩ := bo_e h
      refine j_eqq e16 ?_
      obtain ⟨q18, h⟩ := ck_e h
      obtain ⟨r17, κ17, e17, h⟩ := bd_e h
      refine ecallV_i K hN (c_Press_wrongOf_ok l D θ N o15 o16 κ12 _ e17) eG_ErrataRow_182 eh_Press_wrongOf (by decide) (rmA_ok (by decide) (by decide)) rfl q18 (by decide) rfl (st := []) (Nat.le_of_ble_eq_true rfl) rfl d_ErrataRow_firstWithoutWrong_48 ⟨Nat.le_of_ble_eq_true rfl, Nat.le_of_ble_eq_true rfl⟩ ?_
      refine j_iload_n K 2 d_ErrataRow_firstWithoutWrong_51 rfl rfl ?_
      refine j_iand K d_ErrataRow_firstWithoutWrong_52 ?_
      refine j_if_ne (tgt := 58) K d_ErrataRow_firstWithoutWrong_53 (by decide) (fun q => ?_) (fun q => ?_)
      · have h := if_f h q
        obtain ⟨v19, e19, h⟩ := lt_e h
        refine j_iinc (k := 3) (v := v19) (lv' := [(2, .int v19), (3, .int v9), (0, .ref x0), (1, .int x1)]) K d_ErrataRow_firstWithoutWrong_58 rfl (by rw [e19]; rfl) (by decide) rfl ?_
        refine j_goto (tgt := 13) K d_ErrataRow_firstWithoutWrong_61 (by decide) ?_
        refine j_sub [2, 3, 0] rfl ?_
        exact ih x0 x1 v19 κ17 h
      · have h := if_t h q
        refine j_iload_n K 0 d_ErrataRow_firstWithoutWrong_56 rfl rfl ?_
        exact eret_i K h hr hlk d_ErrataRow_firstWithoutWrong_57
def p_ErrataRow_firstWithoutWrong (N : Nat) (this : Nat) (a1 : Int32) (κ : Cz) : Option (Int32 × Cz) := ck (isK κ this 11) (bo (fr κ this 7) (fun o2 => ck (isK κ o2 10) (bo (fr κ o2 1) (fun o4 => bo (p_ErrataRow_startFrom N this o4 κ) (fun κ5 => b_ErrataRow_firstWithoutWrong_13 N N this a1 0 κ5)))))
set_option maxHeartbeats 4000000 in
set_option maxRecDepth 100000 in
theorem c_ErrataRow_firstWithoutWrong_ok (l : Launch) (D : va_G) (θ : Tc) (N : Nat) (this : Nat) (a1 : Int32) (κ : Cz) (ρ : Int32 × Cz) (h : p_ErrataRow_firstWithoutWrong N this a1 κ = some ρ) : CEi l D θ y_ErrataRow_firstWithoutWrong c_ErrataRow_firstWithoutWrong 4 (some .int) 6 0 0 [.ref this, .int a1] κ ρ := by
  intro sz
  refine e_met l [.ref this, .int a1] (by decide +kernel) (Nat.le_of_ble_eq_true rfl) ?_
  intro p e s m args below meth c K hN hr hlk hnm hs
  generalize va_A (wE θ κ) sz = A at K ⊢
  have K : KE p s m args c c_ErrataRow_firstWithoutWrong 4 "ErrataRow" y_ErrataRow_firstWithoutWrong (some .int) D θ A := K
  show JE p l e (rmA 6 0 0) s m args below meth c D θ A 4 0 0 (QEi below args s D θ A 0 0 ρ) κ [(0, .ref this), (1, .int a1)] [] 0
  unfold p_ErrataRow_firstWithoutWrong at h
  refine j_aload_n K 0 d_ErrataRow_firstWithoutWrong_0 rfl rfl ?_
  refine j_aload_n K 0 d_ErrataRow_firstWithoutWrong_1 rfl rfl ?_
  obtain ⟨q1, h⟩ := ck_e h
  refine eg_ErrataRow_world K ef_ErrataRow_45 q1 d_ErrataRow_firstWithoutWrong_2 ?_
  obtain ⟨o2, e2, h⟩ := bo_e h
  refine j_eqq e2 ?_
  obtain ⟨q3, h⟩ := ck_e h
  refine eg_World_now K ef_ErrataRow_145 q3 d_ErrataRow_firstWithoutWrong_5 ?_
  obtain ⟨o4, e4, h⟩ := bo_e h
  refine j_eqq e4 ?_
  obtain ⟨κ5, e5, h⟩ := bo_e h
  refine ecallV_v K hN (c_ErrataRow_startFrom_ok l D θ N this o4 κ _ e5) eG_ErrataRow_252 eh_ErrataRow_startFrom (by decide) (rmA_ok (by decide) (by decide)) rfl q1 (by decide) rfl (st := []) (Nat.le_of_ble_eq_true rfl) rfl d_ErrataRow_firstWithoutWrong_8 ⟨Nat.le_of_ble_eq_true rfl, Nat.le_of_ble_eq_true rfl⟩ ?_
  refine j_iconst (v := 0) K d_ErrataRow_firstWithoutWrong_11 (by decide) ?_
  refine j_istore_n (lv' := [(2, .int 0), (0, .ref this), (1, .int a1)]) K d_ErrataRow_firstWithoutWrong_12 rfl (by decide) rfl ?_
  refine j_sub [1, 2, 0] rfl ?_
  exact t_ErrataRow_firstWithoutWrong_13 K hN hr hlk N ρ N this a1 0 κ5 h
