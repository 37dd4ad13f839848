def b_ErrataRow_mostAlike_18 (N : Nat) (k5 : Nat → Int32 → Int32 → Int32 → Int32 → Cz → Option (Int32 × Cz)) : Nat → Nat → Int32 → Int32 → Int32 → Int32 → Int32 → Int32 → Cz → Option (Int32 × Cz)
  | 0, _, _, _, _, _, _, _, _ => none
  | n + 1, x0, x1, x2, x3, x4, x5, x6, κ => if x2 ≤ x6 then lt (if x3 < x5 then x5 else x3) (fun v1 => lt (x4 + 1) (fun v2 => k5 x0 x1 x2 v1 v2 κ)) else ck (isK κ x0 11) (bo (fr κ x0 14) (fun o4 => ck (isK κ o4 20) (ck (inb x6 (ln κ o4)) (bd (p_ErrataRow_unpacked N (ai κ o4 x6.toNatClampNeg) x1 κ) (fun r7 κ7 => if r7 = x4 then lt (x5 + 1) (fun v9 => lt (x6 + 1) (fun v10 => b_ErrataRow_mostAlike_18 N k5 n x0 x1 x2 x3 x4 v9 v10 κ7)) else lt (x6 + 1) (fun v8 => b_ErrataRow_mostAlike_18 N k5 n x0 x1 x2 x3 x4 x5 v8 κ7))))))
set_option maxHeartbeats 4000000 in
set_option maxRecDepth 100000 in
theorem t_ErrataRow_mostAlike_18 {p : Program} {l : Launch} {e : Env} {s : State} {m : MethodId} {args : Array Value} {below : List Frame} {meth : Method} {c : Code} {D : va_G} {θ : Tc} {A : Nat → Prop} (K : KE p s m args c c_ErrataRow_mostAlike 7 "ErrataRow" y_ErrataRow_mostAlike (some .int) D θ A) (hN : NX s) (hr : meth.sig.returnType = (some .int)) (hlk : meth.locks = false) (N : Nat) (ρ : Int32 × Cz) (k5 : Nat → Int32 → Int32 → Int32 → Int32 → Cz → Option (Int32 × Cz)) (hk5 : ∀ (x0 : Nat) (x1 : Int32) (x2 : Int32) (x3 : Int32) (x4 : Int32) (κ : Cz), k5 x0 x1 x2 x3 x4 κ = some ρ → JE p l e (rmA 2 0 0) s m args below meth c D θ A 7 0 0 (QEi below args s D θ A 0 0 ρ) κ [(0, .ref x0), (1, .int x1), (2, .int x2), (3, .int x3), (4, .int x4)] [] 5) : ∀ (n : Nat) (x0 : Nat) (x1 : Int32) (x2 : Int32) (x3 : Int32) (x4 : Int32) (x5 : Int32) (x6 : Int32) (κ : Cz), b_ErrataRow_mostAlike_18 N k5 n x0 x1 x2 x3 x4 x5 x6 κ = some ρ → JE p l e (rmA 2 0 0) s m args below meth c D θ A 7 0 0 (QEi below args s D θ A 0 0 ρ) κ [(0, .ref x0), (1, .int x1), (2, .int x2), (3, .int x3), (4, .int x4), (5, .int x5), (6, .int x6)] [] 18 := by
  intro n
  induction n with
  | zero =>
    intro x0 x1 x2 x3 x4 x5 x6 κ h
    exact absurd h (by simp [b_ErrataRow_mostAlike_18])
  | succ n ih =>
    intro x0 x1 x2 x3 x4 x5 x6 κ h
    rw [b_ErrataRow_mostAlike_18] at h
    refine j_iload K 6 d_ErrataRow_mostAlike_18 rfl ?_
    refine j_iload_n K 2 d_ErrataRow_mostAlike_20 rfl rfl ?_
    refine j_icmp_ge (tgt := 49) K d_ErrataRow_mostAlike_21 (by decide) (fun q => ?_) (fun q => ?_)
    · have h := if_t h q
      refine j_iload_n K 3 d_ErrataRow_mostAlike_49 rfl rfl ?_
      refine j_iload K 5 d_ErrataRow_mostAlike_50 rfl ?_
      refine e_mmax K el_ErrataRow_352 es_mmax ei_Math ec_mmax (by decide) (Nat.le_of_ble_eq_true rfl) (Nat.le_of_ble_eq_true rfl) (Nat.le_of_ble_eq_true rfl) d_ErrataRow_mostAlike_52 ?_
      obtain ⟨v1, e1, h⟩ := lt_e h
      refine j_eqi e1 ?_
      refine j_istore_n (lv' := [(3, .int v1), (0, .ref x0), (1, .int x1), (2, .int x2), (4, .int x4), (5, .int x5), (6, .int x6)]) K d_ErrataRow_mostAlike_55 rfl (by decide) rfl ?_
      obtain ⟨v2, e2, h⟩ := lt_e h
      refine j_iinc (k := 4) (v := v2) (lv' := [(4, .int v2), (3, .int v1), (0, .ref x0), (1, .int x1), (2, .int x2), (5, .int x5), (6, .int x6)]) K d_ErrataRow_mostAlike_56 rfl (by rw [e2]; rfl) (by decide) rfl ?_
      refine j_goto (tgt := 5) K d_ErrataRow_mostAlike_59 (by decide) ?_
      refine j_sub [2, 3, 4, 1, 0] rfl ?_
      exact hk5 x0 x1 x2 v1 v2 κ h
    · have h := if_f h q
      refine j_aload_n K 0 d_ErrataRow_mostAlike_24 rfl rfl ?_
      obtain ⟨q3, h⟩ := ck_e h
      refine eg_ErrataRow_scratch K ef_ErrataRow_92 q3 d_ErrataRow_mostAlike_25 ?_
      obtain ⟨o4, e4, h⟩ := bo_e h
      refine j_eqq e4 ?_
      refine j_iload K 6 d_ErrataRow_mostAlike_28 rfl ?_
      obtain ⟨q5, h⟩ := ck_e h
      obtain ⟨q6, h⟩ := ck_e h
      refine e_iald K q5 (inb_e q6) d_ErrataRow_mostAlike_30 ?_
      refine j_iload_n K 1 d_ErrataRow_mostAlike_31 rfl rfl ?_
      obtain ⟨r7, κ7, e7, h⟩ := bd_e h
      refine ecallS_i K hN (c_ErrataRow_unpacked_ok l D θ N (ai κ o4 x6.toNatClampNeg) x1 κ _ e7) eG_ErrataRow_349 eh_ErrataRow_unpacked (by decide) (rmA_ok (by decide) (by decide)) rfl (st := []) (Nat.le_of_ble_eq_true rfl) rfl d_ErrataRow_mostAlike_32 ⟨Nat.le_of_ble_eq_true rfl, Nat.le_of_ble_eq_true rfl⟩ ?_
      refine j_iload K 4 d_ErrataRow_mostAlike_35 rfl ?_
      refine j_icmp_ne (tgt := 43) K d_ErrataRow_mostAlike_37 (by decide) (fun q => ?_) (fun q => ?_)
      · have h := if_f h q
        obtain ⟨v8, e8, h⟩ := lt_e h
        refine j_iinc (k := 6) (v := v8) (lv' := [(6, .int v8), (0, .ref x0), (1, .int x1), (2, .int x2), (3, .int x3), (4, .int x4), (5, .int x5)]) K d_ErrataRow_mostAlike_43 rfl (by rw [e8]; rfl) (by decide) rfl ?_
        refine j_goto (tgt := 18) K d_ErrataRow_mostAlike_46 (by decide) ?_
        refine j_sub [1, 2, 3, 4, 5, 6, 0] rfl ?_
        exact ih x0 x1 x2 x3 x4 x5 v8 κ7 h
      · have h := if_t h q
        obtain ⟨v9, e9, h⟩ := lt_e h
        refine j_iinc (k := 5) (v := v9) (lv' := [(5, .int v9), (0, .ref x0), (1, .int x1), (2, .int x2), (3, .int x3), (4, .int x4), (6, .int x6)]) K d_ErrataRow_mostAlike_40 rfl (by rw [e9]; rfl) (by decide) rfl ?_
        obtain ⟨v10, e10, h⟩ := lt_e h
        refine j_iinc (k := 6) (v := v10) (lv' := [(6, .int v10), (5, .int v9), (0, .ref x0), (1, .int x1), (2, .int x2), (3, .int x3), (4, .int x4)]) K d_ErrataRow_mostAlike_43 rfl (by rw [e10]; rfl) (by decide) rfl ?_
        refine j_goto (tgt := 18) K d_ErrataRow_mostAlike_46 (by decide) ?_
        refine j_sub [2, 3, 4, 5, 6, 1, 0] rfl ?_
        exact ih x0 x1 x2 x3 x4 v9 v10 κ7 h
def b_ErrataRow_mostAlike_5 (N : Nat) : Nat → Nat → Int32 → Int32 → Int32 → Int32 → Cz → Option (Int32 × Cz)
  | 0, _, _, _, _, _, _ => none
  | n + 1, x0, x1, x2, x3, x4, κ => if 8 ≤ x4 then some (x3, κ) else b_ErrataRow_mostAlike_18 N (b_ErrataRow_mostAlike_5 N n) N x0 x1 x2 x3 x4 0 0 κ
set_option maxHeartbeats 4000000 in
set_option maxRecDepth 100000 in
theorem t_ErrataRow_mostAlike_5 {p : Program} {l : Launch} {e : Env} {s : State} {m : MethodId} {args : Array Value} {below : List Frame} {meth : Method} {c : Code} {D : va_G} {θ : Tc} {A : Nat → Prop} (K : KE p s m args c c_ErrataRow_mostAlike 7 "ErrataRow" y_ErrataRow_mostAlike (some .int) D θ A) (hN : NX s) (hr : meth.sig.returnType = (some .int)) (hlk : meth.locks = false) (N : Nat) (ρ : Int32 × Cz) : ∀ (n : Nat) (x0 : Nat) (x1 : Int32) (x2 : Int32) (x3 : Int32) (x4 : Int32) (κ : Cz), b_ErrataRow_mostAlike_5 N n x0 x1 x2 x3 x4 κ = some ρ → JE p l e (rmA 2 0 0) s m args below meth c D θ A 7 0 0 (QEi below args s D θ A 0 0 ρ) κ [(0, .ref x0), (1, .int x1), (2, .int x2), (3, .int x3), (4, .int x4)] [] 5 := by
  intro n
  induction n with
  | zero =>
    intro x0 x1 x2 x3 x4 κ h
    exact absurd h (by simp [b_ErrataRow_mostAlike_5])
  | succ n ih =>
    intro x0 x1 x2 x3 x4 κ h
    rw [b_ErrataRow_mostAlike_5] at h
    refine j_iload K 4 d_ErrataRow_mostAlike_5 rfl ?_
    refine j_bipush (v := 8) K d_ErrataRow_mostAlike_7 (by decide) ?_
    refine j_icmp_ge (tgt := 62) K d_ErrataRow_mostAlike_9 (by decide) (fun q => ?_) (fun q => ?_)
    · have h := if_t h q
      refine j_iload_n K 3 d_ErrataRow_mostAlike_62 rfl rfl ?_
      exact eret_i K h hr hlk d_ErrataRow_mostAlike_63
    · have h := if_f h q
      refine j_iconst (v := 0) K d_ErrataRow_mostAlike_12 (by decide) ?_
      refine j_istore (lv' := [(5, .int 0), (0, .ref x0), (1, .int x1), (2, .int x2), (3, .int x3), (4, .int x4)]) K d_ErrataRow_mostAlike_13 (by decide) rfl ?_
      refine j_iconst (v := 0) K d_ErrataRow_mostAlike_15 (by decide) ?_
      refine j_istore (lv' := [(6, .int 0), (5, .int 0), (0, .ref x0), (1, .int x1), (2, .int x2), (3, .int x3), (4, .int x4)]) K d_ErrataRow_mostAlike_16 (by decide) rfl ?_
      refine j_sub [2, 3, 4, 5, 6, 1, 0] rfl ?_
      exact t_ErrataRow_mostAlike_18 K hN hr hlk N ρ (b_ErrataRow_mostAlike_5 N n) ih N x0 x1 x2 x3 x4 0 0 κ h
def p_ErrataRow_mostAlike (N : Nat) (this : Nat) (a1 : Int32) (a2 : Int32) (κ : Cz) : Option (Int32 × Cz) := b_ErrataRow_mostAlike_5 N N this a1 a2 0 0 κ
set_option maxHeartbeats 4000000 in
set_option maxRecDepth 100000 in
theorem c_ErrataRow_mostAlike_ok (l : Launch) (D : va_G) (θ : Tc) (N : Nat) (this : Nat) (a1 : Int32) (a2 : Int32) (κ : Cz) (ρ : Int32 × Cz) (h : p_ErrataRow_mostAlike N this a1 a2 κ = some ρ) : CEi l D θ y_ErrataRow_mostAlike c_ErrataRow_mostAlike 7 (some .int) 2 0 0 [.ref this, .int a1, .int a2] κ ρ := by
  intro sz
  refine e_met l [.ref this, .int a1, .int a2] (by decide +kernel) (Nat.le_of_ble_eq_true rfl) ?_
  intro p e s m args below meth c K hN hr hlk hnm hs
  generalize va_A (wE θ κ) sz = A at K ⊢
  have K : KE p s m args c c_ErrataRow_mostAlike 7 "ErrataRow" y_ErrataRow_mostAlike (some .int) D θ A := K
  show JE p l e (rmA 2 0 0) s m args below meth c D θ A 7 0 0 (QEi below args s D θ A 0 0 ρ) κ [(0, .ref this), (1, .int a1), (2, .int a2)] [] 0
  unfold p_ErrataRow_mostAlike at h
  refine j_iconst (v := 0) K d_ErrataRow_mostAlike_0 (by decide) ?_
  refine j_istore_n (lv' := [(3, .int 0), (0, .ref this), (1, .int a1), (2, .int a2)]) K d_ErrataRow_mostAlike_1 rfl (by decide) rfl ?_
  refine j_iconst (v := 0) K d_ErrataRow_mostAlike_2 (by decide) ?_
  refine j_istore (lv' := [(4, .int 0), (3, .int 0), (0, .ref this), (1, .int a1), (2, .int a2)]) K d_ErrataRow_mostAlike_3 (by decide) rfl ?_
  refine j_sub [2, 3, 4, 1, 0] rfl ?_
  exact t_ErrataRow_mostAlike_5 K hN hr hlk N ρ N this a1 a2 0 0 κ h
def p_ErrataRow_slip (N : Nat) (this : Nat) (a1 : Int32) (a2 : Int32) (κ : Cz) : Option (Int32 × Cz) := bd (p_ErrataRow_nextX N a1 κ) (fun r1 κ1 => ck (isK κ1 this 11) (bo (fr κ1 this 7) (fun o3 => ck (isK κ1 o3 10) (bo (fr κ1 o3 0) (fun o5 => ck (isK κ1 o5 0) (lt (fi κ1 o5 2) (fun v7 => bd (p_ErrataRow_drawOf N r1 κ1) (fun r8 κ8 => if a2 ≤ (r8 - r8 / 100 * 100) then some (r1, κ8) else if v7 = 0 then some (r1, κ8) else bd (p_ErrataRow_nextX N r1 κ8) (fun r9 κ9 => bd (p_ErrataRow_drawOf N r9 κ9) (fun r10 κ10 => ck (nz v7) (lt (r10 - r10 / v7 * v7) (fun v12 => bd (p_ErrataRow_nextX N r9 κ10) (fun r13 κ13 => ck (isK κ13 this 11) (bo (fr κ13 this 12) (fun o15 => ck (isK κ13 o15 8) (bo (fr κ13 o15 0) (fun o17 => bd (p_ErrataRow_drawOf N r13 κ13) (fun r18 κ18 => lt (r18 - r18 / 8 * 8) (fun v19 => ck (isK κ18 o17 20) (ck (inb v12 (ln κ18 o17)) (lt (sai o17 (upd (ai κ18 o17) v12.toNatClampNeg v19) κ18) (fun κ22 => some (r13, κ22)))))))))))))))))))))))
set_option maxHeartbeats 4000000 in
set_option maxRecDepth 100000 in
theorem c_ErrataRow_slip_ok (l : Launch) (D : va_G) (θ : Tc) (N : Nat) (this : Nat) (a1 : Int32) (a2 : Int32) (κ : Cz) (ρ : Int32 × Cz) (h : p_ErrataRow_slip N this a1 a2 κ = some ρ) : CEi l D θ y_ErrataRow_slip c_ErrataRow_slip 6 (some .int) 2 0 0 [.ref this, .int a1, .int a2] κ ρ := by
  intro sz
  refine e_met l [.ref this, .int a1, .int a2] (by decide +kernel) (Nat.le_of_ble_eq_true rfl) ?_
  intro p e s m args below meth c K hN hr hlk hnm hs
  generalize va_A (wE θ κ) sz = A at K ⊢
  have K : KE p s m args c c_ErrataRow_slip 6 "ErrataRow" y_ErrataRow_slip (some .int) D θ A := K
  show JE p l e (rmA 2 0 0) s m args below meth c D θ A 6 0 0 (QEi below args s D θ A 0 0 ρ) κ [(0, .ref this), (1, .int a1), (2, .int a2)] [] 0
  unfold p_ErrataRow_slip at h
  refine j_iload_n K 1 d_ErrataRow_slip_0 rfl rfl ?_
  obtain ⟨r1, κ1, e1, h⟩ := bd_e h
  refine ecallS_i K hN (c_ErrataRow_nextX_ok l D θ N a1 κ _ e1) eG_ErrataRow_358 eh_ErrataRow_nextX (by decide) (rmA_ok (by decide) (by decide)) rfl (st := []) (Nat.le_of_ble_eq_true rfl) rfl d_ErrataRow_slip_1 ⟨Nat.le_of_ble_eq_true rfl, Nat.le_of_ble_eq_true rfl⟩ ?_
  refine j_istore_n (lv' := [(3, .int r1), (0, .ref this), (1, .int a1), (2, .int a2)]) K d_ErrataRow_slip_4 rfl (by decide) rfl ?_
  refine j_aload_n K 1 d_ErrataRow_slip_5 rfl rfl ?_
  obtain ⟨q2, h⟩ := ck_e h
  refine eg_ErrataRow_world K ef_ErrataRow_45 q2 d_ErrataRow_slip_6 ?_
  obtain ⟨o3, e3, h⟩ := bo_e h
  refine j_eqq e3 ?_
  obtain ⟨q4, h⟩ := ck_e h
  refine eg_World_book K ef_ErrataRow_62 q4 d_ErrataRow_slip_9 ?_
  obtain ⟨o5, e5, h⟩ := bo_e h
  refine j_eqq e5 ?_
  obtain ⟨q6, h⟩ := ck_e h
  refine eg_Book_letters K ef_ErrataRow_123 q6 d_ErrataRow_slip_12 ?_
  obtain ⟨v7, e7, h⟩ := lt_e h
  refine j_eqi e7 ?_
  refine j_istore (lv' := [(4, .int v7), (3, .int r1), (0, .ref this), (1, .int a1), (2, .int a2)]) K d_ErrataRow_slip_15 (by decide) rfl ?_
  refine j_iload_n K 1 d_ErrataRow_slip_17 rfl rfl ?_
  obtain ⟨r8, κ8, e8, h⟩ := bd_e h
  refine ecallS_i K hN (c_ErrataRow_drawOf_ok l D θ N r1 κ1 _ e8) eG_ErrataRow_361 eh_ErrataRow_drawOf (by decide) (rmA_ok (by decide) (by decide)) rfl (st := []) (Nat.le_of_ble_eq_true rfl) rfl d_ErrataRow_slip_18 ⟨Nat.le_of_ble_eq_true rfl, Nat.le_of_ble_eq_true rfl⟩ ?_
  refine j_bipush (v := 100) K d_ErrataRow_slip_21 (by decide) ?_
  refine j_irem K d_ErrataRow_slip_23 (by decide) ?_
  refine j_iload_n K 4 d_ErrataRow_slip_24 rfl rfl ?_
  refine j_icmp_ge (tgt := 33) K d_ErrataRow_slip_25 (by decide) (fun q => ?_) (fun q => ?_)
  · have h := if_t h q
    refine j_iload_n K 1 d_ErrataRow_slip_33 rfl rfl ?_
    exact eret_i K h hr hlk d_ErrataRow_slip_34
  · have h := if_f h q
    refine j_iload K 0 d_ErrataRow_slip_28 rfl ?_
    refine j_if_ne (tgt := 35) K d_ErrataRow_slip_30 (by decide) (fun q => ?_) (fun q => ?_)
    · have h := if_f h q
      refine j_iload_n K 1 d_ErrataRow_slip_35 rfl rfl ?_
      obtain ⟨r9, κ9, e9, h⟩ := bd_e h
      refine ecallS_i K hN (c_ErrataRow_nextX_ok l D θ N r1 κ8 _ e9) eG_ErrataRow_358 eh_ErrataRow_nextX (by decide) (rmA_ok (by decide) (by decide)) rfl (st := []) (Nat.le_of_ble_eq_true rfl) rfl d_ErrataRow_slip_36 ⟨Nat.le_of_ble_eq_true rfl, Nat.le_of_ble_eq_true rfl⟩ ?_
      refine j_istore_n (lv' := [(3, .int r9), (4, .int v7), (0, .ref this), (1, .int a1), (2, .int a2)]) K d_ErrataRow_slip_39 rfl (by decide) rfl ?_
      refine j_iload_n K 0 d_ErrataRow_slip_40 rfl rfl ?_
      obtain ⟨r10, κ10, e10, h⟩ := bd_e h
      refine ecallS_i K hN (c_ErrataRow_drawOf_ok l D θ N r9 κ9 _ e10) eG_ErrataRow_361 eh_ErrataRow_drawOf (by decide) (rmA_ok (by decide) (by decide)) rfl (st := []) (Nat.le_of_ble_eq_true rfl) rfl d_ErrataRow_slip_41 ⟨Nat.le_of_ble_eq_true rfl, Nat.le_of_ble_eq_true rfl⟩ ?_
      refine j_iload K 1 d_ErrataRow_slip_44 rfl ?_
      obtain ⟨q11, h⟩ := ck_e h
      refine j_irem K d_ErrataRow_slip_46 (nz_e q11) ?_
      obtain ⟨v12, e12, h⟩ := lt_e h
      refine j_eqi e12 ?_
      refine j_istore (lv' := [(5, .int v12), (3, .int r9), (4, .int v7), (0, .ref this), (1, .int a1), (2, .int a2)]) K d_ErrataRow_slip_47 (by decide) rfl ?_
      refine j_iload_n K 1 d_ErrataRow_slip_49 rfl rfl ?_
      obtain ⟨r13, κ13, e13, h⟩ := bd_e h
      refine ecallS_i K hN (c_ErrataRow_nextX_ok l D θ N r9 κ10 _ e13) eG_ErrataRow_358 eh_ErrataRow_nextX (by decide) (rmA_ok (by decide) (by decide)) rfl (st := []) (Nat.le_of_ble_eq_true rfl) rfl d_ErrataRow_slip_50 ⟨Nat.le_of_ble_eq_true rfl, Nat.le_of_ble_eq_true rfl⟩ ?_
      refine j_istore_n (lv' := [(3, .int r13), (5, .int v12), (4, .int v7), (0, .ref this), (1, .int a1), (2, .int a2)]) K d_ErrataRow_slip_53 rfl (by decide) rfl ?_
      refine j_aload_n K 3 d_ErrataRow_slip_54 rfl rfl ?_
      obtain ⟨q14, h⟩ := ck_e h
      refine eg_ErrataRow_trial K ef_ErrataRow_85 q14 d_ErrataRow_slip_55 ?_
      obtain ⟨o15, e15, h⟩ := bo_e h
      refine j_eqq e15 ?_
      obtain ⟨q16, h⟩ := ck_e h
      refine eg_State_put K ef_ErrataRow_148 q16 d_ErrataRow_slip_58 ?_
      obtain ⟨o17, e17, h⟩ := bo_e h
      refine j_eqq e17 ?_
      refine j_iload K 1 d_ErrataRow_slip_61 rfl ?_
      refine j_iload_n K 0 d_ErrataRow_slip_63 rfl rfl ?_
      obtain ⟨r18, κ18, e18, h⟩ := bd_e h
      refine ecallS_i K hN (c_ErrataRow_drawOf_ok l D θ N r13 κ13 _ e18) eG_ErrataRow_361 eh_ErrataRow_drawOf (by decide) (rmA_ok (by decide) (by decide)) rfl (st := [.int v12, .ref o17]) (Nat.le_of_ble_eq_true rfl) rfl d_ErrataRow_slip_64 ⟨Nat.le_of_ble_eq_true rfl, Nat.le_of_ble_eq_true rfl⟩ ?_
      refine j_bipush (v := 8) K d_ErrataRow_slip_67 (by decide) ?_
      refine j_irem K d_ErrataRow_slip_69 (by decide) ?_
      obtain ⟨v19, e19, h⟩ := lt_e h
      refine j_eqi e19 ?_
      obtain ⟨q20, h⟩ := ck_e h
      obtain ⟨q21, h⟩ := ck_e h
      obtain ⟨κ22, e22, h⟩ := lt_e h
      refine e_iast K q20 (inb_e q21) d_ErrataRow_slip_70 e22 ?_
      refine j_iload_n K 0 d_ErrataRow_slip_71 rfl rfl ?_
      exact eret_i K h hr hlk d_ErrataRow_slip_72
    · have h := if_t h q
      refine j_iload_n K 1 d_ErrataRow_slip_33 rfl rfl ?_
      exact eret_i K h hr hlk d_ErrataRow_slip_34
def p_Book_clear (N : Nat) (this : Nat) (κ : Cz) : Option (Cz) := ck (isK κ this 0) (lt (sfi this 0 0 κ) (fun κ2 => lt (sfi this 1 0 κ2) (fun κ3 => lt (sfi this 2 0 κ3) (fun κ4 => lt (sfi this 3 0 κ4) (fun κ5 => bo (fr κ5 this 4) (fun o6 => bo (p_Arrays_fill N o6 0 κ5) (fun κ7 => ck (isK κ7 this 0) (bo (fr κ7 this 5) (fun o9 => bo (p_Arrays_fill N o9 0 κ7) (fun κ10 => ck (isK κ10 this 0) (bo (fr κ10 this 6) (fun o12 => bo (p_Arrays_fill N o12 0 κ10) (fun κ13 => ck (isK κ13 this 0) (bo (fr κ13 this 7) (fun o15 => ck (isK κ13 o15 8) (bo (p_State_clear N o15 κ13) (fun κ16 => some κ16)))))))))))))))))
set_option maxHeartbeats 4000000 in
set_option maxRecDepth 100000 in
theorem c_Book_clear_ok (l : Launch) (D : va_G) (θ : Tc) (N : Nat) (this : Nat) (κ : Cz) (ρ : Cz) (h : p_Book_clear N this κ = some ρ) : CEv l D θ y_Book_clear c_Book_clear 1 none 3 0 0 [.ref this] κ ρ := by
  intro sz
  refine e_met l [.ref this] (by decide +kernel) (Nat.le_of_ble_eq_true rfl) ?_
  intro p e s m args below meth c K hN hr hlk hnm hs
  generalize va_A (wE θ κ) sz = A at K ⊢
  have K : KE p s m args c c_Book_clear 1 "ErrataRow$Book" y_Book_clear none D θ A := K
  show JE p l e (rmA 3 0 0) s m args below meth c D θ A 1 0 0 (QEv below args s D θ A 0 0 ρ) κ [(0, .ref this)] [] 0
  unfold p_Book_clear at h
  refine j_aload_n K 0 d_Book_clear_0 rfl rfl ?_
  refine j_iconst (v := 0) K d_Book_clear_1 (by decide) ?_
  obtain ⟨q1, h⟩ := ck_e h
  obtain ⟨κ2, e2, h⟩ := lt_e h
  refine ep_Book_told K (by decide) ef_Book_28 q1 d_Book_clear_2 e2 ?_
  refine j_aload_n K 0 d_Book_clear_5 rfl rfl ?_
  refine j_iconst (v := 0) K d_Book_clear_6 (by decide) ?_
  obtain ⟨κ3, e3, h⟩ := lt_e h
  refine ep_Book_quarter K ef_Book_32 (isK_sfi e2 q1) d_Book_clear_7 e3 ?_
  refine j_aload_n K 0 d_Book_clear_10 rfl rfl ?_
  refine j_iconst (v := 0) K d_Book_clear_11 (by decide) ?_
  obtain ⟨κ4, e4, h⟩ := lt_e h
  refine ep_Book_letters K ef_Book_36 (isK_sfi e3 (isK_sfi e2 q1)) d_Book_clear_12 e4 ?_
  refine j_aload_n K 0 d_Book_clear_15 rfl rfl ?_
  refine j_iconst (v := 0) K d_Book_clear_16 (by decide) ?_
  obtain ⟨κ5, e5, h⟩ := lt_e h
  refine ep_Book_habits K ef_Book_39 (isK_sfi e4 (isK_sfi e3 (isK_sfi e2 q1))) d_Book_clear_17 e5 ?_
  refine j_aload_n K 0 d_Book_clear_20 rfl rfl ?_
  refine eg_Book_meant K ef_Book_9 (isK_sfi e5 (isK_sfi e4 (isK_sfi e3 (isK_sfi e2 q1)))) d_Book_clear_21 ?_
  obtain ⟨o6, e6, h⟩ := bo_e h
  refine j_eqq e6 ?_
  refine j_iconst (v := 0) K d_Book_clear_24 (by decide) ?_
  obtain ⟨κ7, e7, h⟩ := bo_e h
  refine ecallS_v K hN (c_Arrays_fill_ok l D θ N o6 0 κ5 _ e7) eG_Book_52 eh_Arrays_fill (by decide) (rmA_ok (by decide) (by decide)) rfl (st := []) (Nat.le_of_ble_eq_true rfl) rfl d_Book_clear_25 ⟨Nat.le_of_ble_eq_true rfl, Nat.le_of_ble_eq_true rfl⟩ ?_
  refine j_aload_n K 0 d_Book_clear_28 rfl rfl ?_
  obtain ⟨q8, h⟩ := ck_e h
  refine eg_Book_from K ef_Book_15 q8 d_Book_clear_29 ?_
  obtain ⟨o9, e9, h⟩ := bo_e h
  refine j_eqq e9 ?_
  refine j_iconst (v := 0) K d_Book_clear_32 (by decide) ?_
  obtain ⟨κ10, e10, h⟩ := bo_e h
  refine ecallS_v K hN (c_Arrays_fill_ok l D θ N o9 0 κ7 _ e10) eG_Book_52 eh_Arrays_fill (by decide) (rmA_ok (by decide) (by decide)) rfl (st := []) (Nat.le_of_ble_eq_true rfl) rfl d_Book_clear_33 ⟨Nat.le_of_ble_eq_true rfl, Nat.le_of_ble_eq_true rfl⟩ ?_
  refine j_aload_n K 0 d_Book_clear_36 rfl rfl ?_
  obtain ⟨q11, h⟩ := ck_e h
  refine eg_Book_to K ef_Book_18 q11 d_Book_clear_37 ?_
  obtain ⟨o12, e12, h⟩ := bo_e h
  refine j_eqq e12 ?_
  refine j_iconst (v := 0) K d_Book_clear_40 (by decide) ?_
  obtain ⟨κ13, e13, h⟩ := bo_e h
  refine ecallS_v K hN (c_Arrays_fill_ok l D θ N o12 0 κ10 _ e13) eG_Book_52 eh_Arrays_fill (by decide) (rmA_ok (by decide) (by decide)) rfl (st := []) (Nat.le_of_ble_eq_true rfl) rfl d_Book_clear_41 ⟨Nat.le_of_ble_eq_true rfl, Nat.le_of_ble_eq_true rfl⟩ ?_
  refine j_aload_n K 0 d_Book_clear_44 rfl rfl ?_
  obtain ⟨q14, h⟩ := ck_e h
  refine eg_Book_begin K ef_Book_24 q14 d_Book_clear_45 ?_
  obtain ⟨o15, e15, h⟩ := bo_e h
  refine j_eqq e15 ?_
  obtain ⟨q17, h⟩ := ck_e h
  obtain ⟨κ16, e16, h⟩ := bo_e h
  refine ecallV_v K hN (c_State_clear_ok l D θ N o15 κ13 _ e16) eG_Book_58 eh_State_clear (by decide) (rmA_ok (by decide) (by decide)) rfl q17 (by decide) rfl (st := []) (Nat.le_of_ble_eq_true rfl) rfl d_Book_clear_48 ⟨Nat.le_of_ble_eq_true rfl, Nat.le_of_ble_eq_true rfl⟩ ?_
  exact eret_v K h hr hlk d_Book_clear_51
def p_BookReader_readPay (N : Nat) (this : Nat) (κ : Cz) : Option (Cz) := ck (isK κ this 1) (bo (fr κ this 1) (fun o2 => bd (p_BookReader_readNumber N this 1 9 (-1) κ) (fun r3 κ3 => ck (isK κ3 o2 0) (lt (sfi o2 1 r3 κ3) (fun κ5 => ck (isK κ5 this 1) (bo (fr κ5 this 1) (fun o7 => ck (isK κ5 o7 0) (bo (fr κ5 o7 7) (fun o9 => bd (p_BookReader_readNumber N this 0 999 (-1) κ5) (fun r10 κ10 => ck (isK κ10 o9 8) (lt (sfi o9 3 r10 κ10) (fun κ12 => some κ12))))))))))))
set_option maxHeartbeats 4000000 in
set_option maxRecDepth 100000 in
theorem c_BookReader_readPay_ok (l : Launch) (D : va_G) (θ : Tc) (N : Nat) (this : Nat) (κ : Cz) (ρ : Cz) (h : p_BookReader_readPay N this κ = some ρ) : CEv l D θ y_BookReader_readPay c_BookReader_readPay 1 none 3 0 0 [.ref this] κ ρ := by
  intro sz
  refine e_met l [.ref this] (by decide +kernel) (Nat.le_of_ble_eq_true rfl) ?_
  intro p e s m args below meth c K hN hr hlk hnm hs
  generalize va_A (wE θ κ) sz = A at K ⊢
  have K : KE p s m args c c_BookReader_readPay 1 "ErrataRow$BookReader" y_BookReader_readPay none D θ A := K
  show JE p l e (rmA 3 0 0) s m args below meth c D θ A 1 0 0 (QEv below args s D θ A 0 0 ρ) κ [(0, .ref this)] [] 0
  unfold p_BookReader_readPay at h
  refine j_aload_n K 0 d_BookReader_readPay_0 rfl rfl ?_
  obtain ⟨q1, h⟩ := ck_e h
  refine eg_BookReader_told K ef_BookReader_12 q1 d_BookReader_readPay_1 ?_
  obtain ⟨o2, e2, h⟩ := bo_e h
  refine j_eqq e2 ?_
  refine j_aload_n K 0 d_BookReader_readPay_4 rfl rfl ?_
  refine j_iconst (v := 1) K d_BookReader_readPay_5 (by decide) ?_
  refine j_bipush (v := 9) K d_BookReader_readPay_6 (by decide) ?_
  refine j_iconst (v := (-1)) K d_BookReader_readPay_8 (by decide) ?_
  obtain ⟨r3, κ3, e3, h⟩ := bd_e h
  refine ecallV_i K hN (c_BookReader_readNumber_ok l D θ N this 1 9 (-1) κ _ e3) eG_BookReader_70 eh_BookReader_readNumber (by decide) (rmA_ok (by decide) (by decide)) rfl q1 (by decide) rfl (st := [.ref o2]) (Nat.le_of_ble_eq_true rfl) rfl d_BookReader_readPay_9 ⟨Nat.le_of_ble_eq_true rfl, Nat.le_of_ble_eq_true rfl⟩ ?_
  obtain ⟨q4, h⟩ := ck_e h
  obtain ⟨κ5, e5, h⟩ := lt_e h
  refine ep_Book_quarter K ef_BookReader_74 q4 d_BookReader_readPay_12 e5 ?_
  refine j_aload_n K 0 d_BookReader_readPay_15 rfl rfl ?_
  obtain ⟨q6, h⟩ := ck_e h
  refine eg_BookReader_told K ef_BookReader_12 q6 d_BookReader_readPay_16 ?_
  obtain ⟨o7, e7, h⟩ := bo_e h
  refine j_eqq e7 ?_
  obtain ⟨q8, h⟩ := ck_e h
  refine eg_Book_begin K ef_BookReader_77 q8 d_BookReader_readPay_19 ?_
  obtain ⟨o9, e9, h⟩ := bo_e h
  refine j_eqq e9 ?_
  refine j_aload_n K 0 d_BookReader_readPay_22 rfl rfl ?_
  refine j_iconst (v := 0) K d_BookReader_readPay_23 (by decide) ?_
  refine j_sipush (v := 999) K d_BookReader_readPay_24 (by decide) ?_
  refine j_iconst (v := (-1)) K d_BookReader_readPay_27 (by decide) ?_
  obtain ⟨r10, κ10, e10, h⟩ := bd_e h
  refine ecallV_i K hN (c_BookReader_readNumber_ok l D θ N this 0 999 (-1) κ5 _ e10) eG_BookReader_70 eh_BookReader_readNumber (by decide) (rmA_ok (by decide) (by decide)) rfl q6 (by decide) rfl (st := [.ref o9]) (Nat.le_of_ble_eq_true rfl) rfl d_BookReader_readPay_28 ⟨Nat.le_of_ble_eq_true rfl, Nat.le_of_ble_eq_true rfl⟩ ?_
  obtain ⟨q11, h⟩ := ck_e h
  obtain ⟨κ12, e12, h⟩ := lt_e h
  refine ep_State_purse K ef_BookReader_81 q11 d_BookReader_readPay_31 e12 ?_
  exact eret_v K h hr hlk d_BookReader_readPay_34
def p_BookReader_readPuts (N : Nat) (this : Nat) (a1 : Int32) (κ : Cz) : Option (Cz) := ck (isK κ this 1) (bd (p_BookReader_readNumber N this 0 7 (-1) κ) (fun r1 κ1 => ck (isK κ1 this 1) (bd (p_BookReader_readNumber N this 0 7 (-1) κ1) (fun r3 κ3 => if a1 = 0 then ck (isK κ3 this 1) (bo (fr κ3 this 1) (fun o6 => ck (isK κ3 o6 0) (bo (p_Book_addHabit N o6 r1 r3 κ3) (fun κ7 => some κ7)))) else ck (isK κ3 this 1) (bo (fr κ3 this 1) (fun o10 => ck (isK κ3 o10 0) (bo (p_Book_addLetter N o10 r1 r3 κ3) (fun κ11 => some κ11))))))))
set_option maxHeartbeats 4000000 in
set_option maxRecDepth 100000 in
theorem c_BookReader_readPuts_ok (l : Launch) (D : va_G) (θ : Tc) (N : Nat) (this : Nat) (a1 : Int32) (κ : Cz) (ρ : Cz) (h : p_BookReader_readPuts N this a1 κ = some ρ) : CEv l D θ y_BookReader_readPuts c_BookReader_readPuts 4 none 3 0 0 [.ref this, .int a1] κ ρ := by
  intro sz
  refine e_met l [.ref this, .int a1] (by decide +kernel) (Nat.le_of_ble_eq_true rfl) ?_
  intro p e s m args below meth c K hN hr hlk hnm hs
  generalize va_A (wE θ κ) sz = A at K ⊢
  have K : KE p s m args c c_BookReader_readPuts 4 "ErrataRow$BookReader" y_BookReader_readPuts none D θ A := K
  show JE p l e (rmA 3 0 0) s m args below meth c D θ A 4 0 0 (QEv below args s D θ A 0 0 ρ) κ [(0, .ref this), (1, .int a1)] [] 0
  unfold p_BookReader_readPuts at h
  refine j_aload_n K 0 d_BookReader_readPuts_0 rfl rfl ?_
  refine j_iconst (v := 0) K d_BookReader_readPuts_1 (by decide) ?_
  refine j_bipush (v := 7) K d_BookReader_readPuts_2 (by decide) ?_
  refine j_iconst (v := (-1)) K d_BookReader_readPuts_4 (by decide) ?_
  obtain ⟨q2, h⟩ := ck_e h
  obtain ⟨r1, κ1, e1, h⟩ := bd_e h
  refine ecallV_i K hN (c_BookReader_readNumber_ok l D θ N this 0 7 (-1) κ _ e1) eG_BookReader_70 eh_BookReader_readNumber (by decide) (rmA_ok (by decide) (by decide)) rfl q2 (by decide) rfl (st := []) (Nat.le_of_ble_eq_true rfl) rfl d_BookReader_readPuts_5 ⟨Nat.le_of_ble_eq_true rfl, Nat.le_of_ble_eq_true rfl⟩ ?_
  refine j_istore_n (lv' := [(2, .int r1), (0, .ref this), (1, .int a1)]) K d_BookReader_readPuts_8 rfl (by decide) rfl ?_
  refine j_aload_n K 1 d_BookReader_readPuts_9 rfl rfl ?_
  refine j_iconst (v := 0) K d_BookReader_readPuts_10 (by decide) ?_
  refine j_bipush (v := 7) K d_BookReader_readPuts_11 (by decide) ?_
  refine j_iconst (v := (-1)) K d_BookReader_readPuts_13 (by decide) ?_
  obtain ⟨q4, h⟩ := ck_e h
  obtain ⟨r3, κ3, e3, h⟩ := bd_e h
  refine ecallV_i K hN (c_BookReader_readNumber_ok l D θ N this 0 7 (-1) κ1 _ e3) eG_BookReader_70 eh_BookReader_readNumber (by decide) (rmA_ok (by decide) (by decide)) rfl q4 (by decide) rfl (st := []) (Nat.le_of_ble_eq_true rfl) rfl d_BookReader_readPuts_14 ⟨Nat.le_of_ble_eq_true rfl, Nat.le_of_ble_eq_true rfl⟩ ?_
  refine j_istore_n (lv' := [(3, .int r3), (2, .int r1), (0, .ref this), (1, .int a1)]) K d_BookReader_readPuts_17 rfl (by decide) rfl ?_
  refine j_iload_n K 3 d_BookReader_readPuts_18 rfl rfl ?_
  refine j_if_eq (tgt := 34) K d_BookReader_readPuts_19 (by decide) (fun q => ?_) (fun q => ?_)
  · have h := if_t h q
    refine j_aload_n K 2 d_BookReader_readPuts_34 rfl rfl ?_
    obtain ⟨q5, h⟩ := ck_e h
    refine eg_BookReader_told K ef_BookReader_12 q5 d_BookReader_readPuts_35 ?_
    obtain ⟨o6, e6, h⟩ := bo_e h
    refine j_eqq e6 ?_
    refine j_iload_n K 1 d_BookReader_readPuts_38 rfl rfl ?_
    refine j_iload_n K 0 d_BookReader_readPuts_39 rfl rfl ?_
    obtain ⟨q8, h⟩ := ck_e h
    obtain ⟨κ7, e7, h⟩ := bo_e h
    refine ecallV_v K hN (c_Book_addHabit_ok l D θ N o6 r1 r3 κ3 _ e7) eG_BookReader_90 eh_Book_addHabit (by decide) (rmA_ok (by decide) (by decide)) rfl q8 (by decide) rfl (st := []) (Nat.le_of_ble_eq_true rfl) rfl d_BookReader_readPuts_40 ⟨Nat.le_of_ble_eq_true rfl, Nat.le_of_ble_eq_true rfl⟩ ?_
    exact eret_v K h hr hlk d_BookReader_readPuts_43
  · have h := if_f h q
    refine j_aload_n K 2 d_BookReader_readPuts_22 rfl rfl ?_
    obtain ⟨q9, h⟩ := ck_e h
    refine eg_BookReader_told K ef_BookReader_12 q9 d_BookReader_readPuts_23 ?_
    obtain ⟨o10, e10, h⟩ := bo_e h
    refine j_eqq e10 ?_
    refine j_iload_n K 1 d_BookReader_readPuts_26 rfl rfl ?_
    refine j_iload_n K 0 d_BookReader_readPuts_27 rfl rfl ?_
    obtain ⟨q12, h⟩ := ck_e h
    obtain ⟨κ11, e11, h⟩ := bo_e h
    refine ecallV_v K hN (c_Book_addLetter_ok l D θ N o10 r1 r3 κ3 _ e11) eG_BookReader_86 eh_Book_addLetter (by decide) (rmA_ok (by decide) (by decide)) rfl q12 (by decide) rfl (st := []) (Nat.le_of_ble_eq_true rfl) rfl d_BookReader_readPuts_28 ⟨Nat.le_of_ble_eq_true rfl, Nat.le_of_ble_eq_true rfl⟩ ?_
    refine j_goto (tgt := 43) K d_BookReader_readPuts_31 (by decide) ?_
    exact eret_v K h hr hlk d_BookReader_readPuts_43
def p_BookReader_readHangs (N : Nat) (this : Nat) (κ : Cz) : Option (Cz) := ck (isK κ this 1) (bo (fr κ this 1) (fun o2 => ck (isK κ o2 0) (bd (p_BookReader_readNumber N this 0 ((fi κ o2 2) - 1) (-1) κ) (fun r4 κ4 => ck (isK κ4 this 1) (bo (fr κ4 this 1) (fun o6 => ck (isK κ4 o6 0) (bd (p_BookReader_readNumber N this 0 ((fi κ4 o6 2) - 1) r4 κ4) (fun r8 κ8 => if r4 < 0 then some κ8 else if r8 < 0 then some κ8 else ck (isK κ8 this 1) (bo (fr κ8 this 1) (fun o10 => ck (isK κ8 o10 0) (bo (fr κ8 o10 7) (fun o12 => ck (isK κ8 o12 8) (bo (fr κ8 o12 2) (fun o14 => ck (isK κ8 o14 20) (ck (inb r4 (ln κ8 o14)) (lt ((ai κ8 o14 r4.toNatClampNeg) ||| ((1 : Int32) <<< (r8 &&& 31))) (fun v17 => ck (inb r4 (ln κ8 o14)) (lt (sai o14 (upd (ai κ8 o14) r4.toNatClampNeg v17) κ8) (fun κ19 => some κ19)))))))))))))))))))
set_option maxHeartbeats 4000000 in
set_option maxRecDepth 100000 in
theorem c_BookReader_readHangs_ok (l : Launch) (D : va_G) (θ : Tc) (N : Nat) (this : Nat) (κ : Cz) (ρ : Cz) (h : p_BookReader_readHangs N this κ = some ρ) : CEv l D θ y_BookReader_readHangs c_BookReader_readHangs 3 none 3 0 0 [.ref this] κ ρ := by
  intro sz
  refine e_met l [.ref this] (by decide +kernel) (Nat.le_of_ble_eq_true rfl) ?_
  intro p e s m args below meth c K hN hr hlk hnm hs
  generalize va_A (wE θ κ) sz = A at K ⊢
  have K : KE p s m args c c_BookReader_readHangs 3 "ErrataRow$BookReader" y_BookReader_readHangs none D θ A := K
  show JE p l e (rmA 3 0 0) s m args below meth c D θ A 3 0 0 (QEv below args s D θ A 0 0 ρ) κ [(0, .ref this)] [] 0
  unfold p_BookReader_readHangs at h
  refine j_aload_n K 0 d_BookReader_readHangs_0 rfl rfl ?_
  refine j_iconst (v := 0) K d_BookReader_readHangs_1 (by decide) ?_
  refine j_aload_n K 0 d_BookReader_readHangs_2 rfl rfl ?_
  obtain ⟨q1, h⟩ := ck_e h
  refine eg_BookReader_told K ef_BookReader_12 q1 d_BookReader_readHangs_3 ?_
  obtain ⟨o2, e2, h⟩ := bo_e h
  refine j_eqq e2 ?_
  obtain ⟨q3, h⟩ := ck_e h
  refine eg_Book_letters K ef_BookReader_51 q3 d_BookReader_readHangs_6 ?_
  refine j_iconst (v := 1) K d_BookReader_readHangs_9 (by decide) ?_
  refine j_isub K d_BookReader_readHangs_10 ?_
  refine j_iconst (v := (-1)) K d_BookReader_readHangs_11 (by decide) ?_
  obtain ⟨r4, κ4, e4, h⟩ := bd_e h
  refine ecallV_i K hN (c_BookReader_readNumber_ok l D θ N this 0 ((fi κ o2 2) - 1) (-1) κ _ e4) eG_BookReader_70 eh_BookReader_readNumber (by decide) (rmA_ok (by decide) (by decide)) rfl q1 (by decide) rfl (st := []) (Nat.le_of_ble_eq_true rfl) rfl d_BookReader_readHangs_12 ⟨Nat.le_of_ble_eq_true rfl, Nat.le_of_ble_eq_true rfl⟩ ?_
  refine j_istore_n (lv' := [(1, .int r4), (0, .ref this)]) K d_BookReader_readHangs_15 rfl (by decide) rfl ?_
  refine j_aload_n K 1 d_BookReader_readHangs_16 rfl rfl ?_
  refine j_iconst (v := 0) K d_BookReader_readHangs_17 (by decide) ?_
  refine j_aload_n K 1 d_BookReader_readHangs_18 rfl rfl ?_
  obtain ⟨q5, h⟩ := ck_e h
  refine eg_BookReader_told K ef_BookReader_12 q5 d_BookReader_readHangs_19 ?_
  obtain ⟨o6, e6, h⟩ := bo_e h
  refine j_eqq e6 ?_
  obtain ⟨q7, h⟩ := ck_e h
  refine eg_Book_letters K ef_BookReader_51 q7 d_BookReader_readHangs_22 ?_
  refine j_iconst (v := 1) K d_BookReader_readHangs_25 (by decide) ?_
  refine j_isub K d_BookReader_readHangs_26 ?_
  refine j_iload_n K 0 d_BookReader_readHangs_27 rfl rfl ?_
  obtain ⟨r8, κ8, e8, h⟩ := bd_e h
  refine ecallV_i K hN (c_BookReader_readNumber_ok l D θ N this 0 ((fi κ4 o6 2) - 1) r4 κ4 _ e8) eG_BookReader_70 eh_BookReader_readNumber (by decide) (rmA_ok (by decide) (by decide)) rfl q5 (by decide) rfl (st := []) (Nat.le_of_ble_eq_true rfl) rfl d_BookReader_readHangs_28 ⟨Nat.le_of_ble_eq_true rfl, Nat.le_of_ble_eq_true rfl⟩ ?_
  refine j_istore_n (lv' := [(2, .int r8), (1, .int r4), (0, .ref this)]) K d_BookReader_readHangs_31 rfl (by decide) rfl ?_
  refine j_iload_n K 1 d_BookReader_readHangs_32 rfl rfl ?_
  refine j_if_lt (tgt := 58) K d_BookReader_readHangs_33 (by decide) (fun q => ?_) (fun q => ?_)
  · have h := if_t h q
    exact eret_v K h hr hlk d_BookReader_readHangs_58
  · have h := if_f h q
    refine j_iload_n K 0 d_BookReader_readHangs_36 rfl rfl ?_
    refine j_if_lt (tgt := 58) K d_BookReader_readHangs_37 (by decide) (fun q => ?_) (fun q => ?_)
    · have h := if_t h q
      exact eret_v K h hr hlk d_BookReader_readHangs_58
    · have h := if_f h q
      refine j_aload_n K 2 d_BookReader_readHangs_40 rfl rfl ?_
      obtain ⟨q9, h⟩ := ck_e h
      refine eg_BookReader_told K ef_BookReader_12 q9 d_BookReader_readHangs_41 ?_
      obtain ⟨o10, e10, h⟩ := bo_e h
      refine j_eqq e10 ?_
      obtain ⟨q11, h⟩ := ck_e h
      refine eg_Book_begin K ef_BookReader_77 q11 d_BookReader_readHangs_44 ?_
      obtain ⟨o12, e12, h⟩ := bo_e h
      refine j_eqq e12 ?_
      obtain ⟨q13, h⟩ := ck_e h
      refine eg_State_hangs K ef_BookReader_93 q13 d_BookReader_readHangs_47 ?_
      obtain ⟨o14, e14, h⟩ := bo_e h
      refine j_eqq e14 ?_
      refine j_iload_n K 1 d_BookReader_readHangs_50 rfl rfl ?_
      refine j_dup2 K d_BookReader_readHangs_51 rfl rfl ?_
      obtain ⟨q15, h⟩ := ck_e h
      obtain ⟨q16, h⟩ := ck_e h
      refine e_iald K q15 (inb_e q16) d_BookReader_readHangs_52 ?_
      refine j_iconst (v := 1) K d_BookReader_readHangs_53 (by decide) ?_
      refine j_iload_n K 0 d_BookReader_readHangs_54 rfl rfl ?_
      refine j_ishl K d_BookReader_readHangs_55 ?_
      refine j_ior K d_BookReader_readHangs_56 ?_
      obtain ⟨v17, e17, h⟩ := lt_e h
      refine j_eqi e17 ?_
      obtain ⟨q18, h⟩ := ck_e h
      obtain ⟨κ19, e19, h⟩ := lt_e h
      refine e_iast K q15 (inb_e q18) d_BookReader_readHangs_57 e19 ?_
      exact eret_v K h hr hlk d_BookReader_readHangs_58
def p_Press_looseOf (N : Nat) (this : Nat) (a1 : Nat) (κ : Cz) : Option (Int32 × Cz) := ck (isK κ this 4) (bd (p_Press_wrongOf N this a1 κ) (fun r1 κ1 => ck (isK κ1 this 4) (bd (p_Press_looseOfWrong N this a1 r1 κ1) (fun r3 κ3 => some (r3, κ3)))))
set_option maxHeartbeats 4000000 in
set_option maxRecDepth 100000 in
theorem c_Press_looseOf_ok (l : Launch) (D : va_G) (θ : Tc) (N : Nat) (this : Nat) (a1 : Nat) (κ : Cz) (ρ : Int32 × Cz) (h : p_Press_looseOf N this a1 κ = some ρ) : CEi l D θ y_Press_looseOf c_Press_looseOf 2 (some .int) 3 0 0 [.ref this, .ref a1] κ ρ := by
  intro sz
  refine e_met l [.ref this, .ref a1] (by decide +kernel) (Nat.le_of_ble_eq_true rfl) ?_
  intro p e s m args below meth c K hN hr hlk hnm hs
  generalize va_A (wE θ κ) sz = A at K ⊢
  have K : KE p s m args c c_Press_looseOf 2 "ErrataRow$Press" y_Press_looseOf (some .int) D θ A := K
  show JE p l e (rmA 3 0 0) s m args below meth c D θ A 2 0 0 (QEi below args s D θ A 0 0 ρ) κ [(0, .ref this), (1, .ref a1)] [] 0
  unfold p_Press_looseOf at h
  refine j_aload_n K 0 d_Press_looseOf_0 rfl rfl ?_
  refine j_aload_n K 1 d_Press_looseOf_1 rfl rfl ?_
  refine j_aload_n K 0 d_Press_looseOf_2 rfl rfl ?_
  refine j_aload_n K 1 d_Press_looseOf_3 rfl rfl ?_
  obtain ⟨q2, h⟩ := ck_e h
  obtain ⟨r1, κ1, e1, h⟩ := bd_e h
  refine ecallV_i K hN (c_Press_wrongOf_ok l D θ N this a1 κ _ e1) eG_Press_39 eh_Press_wrongOf (by decide) (rmA_ok (by decide) (by decide)) rfl q2 (by decide) rfl (st := [.ref a1, .ref this]) (Nat.le_of_ble_eq_true rfl) rfl d_Press_looseOf_4 ⟨Nat.le_of_ble_eq_true rfl, Nat.le_of_ble_eq_true rfl⟩ ?_
  obtain ⟨q4, h⟩ := ck_e h
  obtain ⟨r3, κ3, e3, h⟩ := bd_e h
  refine ecallV_i K hN (c_Press_looseOfWrong_ok l D θ N this a1 r1 κ1 _ e3) eG_Press_49 eh_Press_looseOfWrong (by decide) (rmA_ok (by decide) (by decide)) rfl q4 (by decide) rfl (st := []) (Nat.le_of_ble_eq_true rfl) rfl d_Press_looseOf_7 ⟨Nat.le_of_ble_eq_true rfl, Nat.le_of_ble_eq_true rfl⟩ ?_
  exact eret_i K h hr hlk d_Press_looseOf_10
def b_Press_printWith_30 (N : Nat) (x0 : Nat) (x1 : Nat) (x2 : Int32) (κ : Cz) : Option (Cz) := ck (isK κ x0 4) (bo (p_Press_putByHabit N x0 x1 x2 κ) (fun κ1 => ck (isK κ1 x0 4) (bo (p_Press_payAll N x0 x1 κ1) (fun κ3 => ck (isK κ3 x1 8) (lt ((fi κ3 x1 5) + 1) (fun v6 => lt (sfi x1 5 v6 κ3) (fun κ7 => some κ7)))))))
set_option maxHeartbeats 4000000 in
set_option maxRecDepth 100000 in
theorem t_Press_printWith_30 {p : Program} {l : Launch} {e : Env} {s : State} {m : MethodId} {args : Array Value} {below : List Frame} {meth : Method} {c : Code} {D : va_G} {θ : Tc} {A : Nat → Prop} (K : KE p s m args c c_Press_printWith 3 "ErrataRow$Press" y_Press_printWith none D θ A) (hN : NX s) (hr : meth.sig.returnType = none) (hlk : meth.locks = false) (N : Nat) (ρ : Cz) (x0 : Nat) (x1 : Nat) (x2 : Int32) (κ : Cz) (h : b_Press_printWith_30 N x0 x1 x2 κ = some ρ) : JE p l e (rmA 3 0 0) s m args below meth c D θ A 3 0 0 (QEv below args s D θ A 0 0 ρ) κ [(0, .ref x0), (1, .ref x1), (2, .int x2)] [] 30 := by
  unfold b_Press_printWith_30 at h
  refine j_aload_n K 0 d_Press_printWith_30 rfl rfl ?_
  refine j_aload_n K 1 d_Press_printWith_31 rfl rfl ?_
  refine j_iload_n K 2 d_Press_printWith_32 rfl rfl ?_
  obtain ⟨q2, h⟩ := ck_e h
  obtain ⟨κ1, e1, h⟩ := bo_e h
  refine ecallV_v K hN (c_Press_putByHabit_ok l D θ N x0 x1 x2 κ _ e1) eG_Press_67 eh_Press_putByHabit (by decide) (rmA_ok (by decide) (by decide)) rfl q2 (by decide) rfl (st := []) (Nat.le_of_ble_eq_true rfl) rfl d_Press_printWith_33 ⟨Nat.le_of_ble_eq_true rfl, Nat.le_of_ble_eq_true rfl⟩ ?_
  refine j_aload_n K 0 d_Press_printWith_36 rfl rfl ?_
  refine j_aload_n K 1 d_Press_printWith_37 rfl rfl ?_
  obtain ⟨q4, h⟩ := ck_e h
  obtain ⟨κ3, e3, h⟩ := bo_e h
  refine ecallV_v K hN (c_Press_payAll_ok l D θ N x0 x1 κ1 _ e3) eG_Press_70 eh_Press_payAll (by decide) (rmA_ok (by decide) (by decide)) rfl q4 (by decide) rfl (st := []) (Nat.le_of_ble_eq_true rfl) rfl d_Press_printWith_38 ⟨Nat.le_of_ble_eq_true rfl, Nat.le_of_ble_eq_true rfl⟩ ?_
  refine j_aload_n K 1 d_Press_printWith_41 rfl rfl ?_
  refine j_dup K d_Press_printWith_42 rfl ?_
  obtain ⟨q5, h⟩ := ck_e h
  refine eg_State_edition K ef_Press_74 q5 d_Press_printWith_43 ?_
  refine j_iconst (v := 1) K d_Press_printWith_46 (by decide) ?_
  refine j_iadd K d_Press_printWith_47 ?_
  obtain ⟨v6, e6, h⟩ := lt_e h
  refine j_eqi e6 ?_
  obtain ⟨κ7, e7, h⟩ := lt_e h
  refine ep_State_edition K ef_Press_74 q5 d_Press_printWith_48 e7 ?_
  exact eret_v K h hr hlk d_Press_printWith_51
def p_Press_printWith (N : Nat) (this : Nat) (a1 : Nat) (a2 : Int32) (κ : Cz) : Option (Cz) := if a2 < 0 then b_Press_printWith_30 N this a1 a2 κ else ck (isK κ this 4) (bo (fr κ this 0) (fun o9 => ck (isK κ o9 0) (if (fi κ o9 2) ≤ a2 then b_Press_printWith_30 N this a1 a2 κ else ck (isK κ a1 8) (bo (fr κ a1 0) (fun o12 => bo (fr κ this 0) (fun o13 => ck (isK κ o13 0) (bo (fr κ o13 4) (fun o15 => ck (isK κ o15 20) (ck (inb a2 (ln κ o15)) (lt (ai κ o15 a2.toNatClampNeg) (fun v18 => ck (isK κ o12 20) (ck (inb a2 (ln κ o12)) (lt (sai o12 (upd (ai κ o12) a2.toNatClampNeg v18) κ) (fun κ21 => b_Press_printWith_30 N this a1 a2 κ21))))))))))))))
set_option maxHeartbeats 4000000 in
set_option maxRecDepth 100000 in
theorem c_Press_printWith_ok (l : Launch) (D : va_G) (θ : Tc) (N : Nat) (this : Nat) (a1 : Nat) (a2 : Int32) (κ : Cz) (ρ : Cz) (h : p_Press_printWith N this a1 a2 κ = some ρ) : CEv l D θ y_Press_printWith c_Press_printWith 3 none 3 0 0 [.ref this, .ref a1, .int a2] κ ρ := by
  intro sz
  refine e_met l [.ref this, .ref a1, .int a2] (by decide +kernel) (Nat.le_of_ble_eq_true rfl) ?_
  intro p e s m args below meth c K hN hr hlk hnm hs
  generalize va_A (wE θ κ) sz = A at K ⊢
  have K : KE p s m args c c_Press_printWith 3 "ErrataRow$Press" y_Press_printWith none D θ A := K
  show JE p l e (rmA 3 0 0) s m args below meth c D θ A 3 0 0 (QEv below args s D θ A 0 0 ρ) κ [(0, .ref this), (1, .ref a1), (2, .int a2)] [] 0
  unfold p_Press_printWith at h
  refine j_iload_n K 2 d_Press_printWith_0 rfl rfl ?_
  refine j_if_lt (tgt := 30) K d_Press_printWith_1 (by decide) (fun q => ?_) (fun q => ?_)
  · have h := if_t h q
    exact t_Press_printWith_30 K hN hr hlk N ρ this a1 a2 κ h
  · have h := if_f h q
    refine j_iload_n K 2 d_Press_printWith_4 rfl rfl ?_
    refine j_aload_n K 0 d_Press_printWith_5 rfl rfl ?_
    obtain ⟨q8, h⟩ := ck_e h
    refine eg_Press_book K ef_Press_21 q8 d_Press_printWith_6 ?_
    obtain ⟨o9, e9, h⟩ := bo_e h
    refine j_eqq e9 ?_
    obtain ⟨q10, h⟩ := ck_e h
    refine eg_Book_letters K ef_Press_25 q10 d_Press_printWith_9 ?_
    refine j_icmp_ge (tgt := 30) K d_Press_printWith_12 (by decide) (fun q => ?_) (fun q => ?_)
    · have h := if_t h q
      exact t_Press_printWith_30 K hN hr hlk N ρ this a1 a2 κ h
    · have h := if_f h q
      refine j_aload_n K 1 d_Press_printWith_15 rfl rfl ?_
      obtain ⟨q11, h⟩ := ck_e h
      refine eg_State_put K ef_Press_30 q11 d_Press_printWith_16 ?_
      obtain ⟨o12, e12, h⟩ := bo_e h
      refine j_eqq e12 ?_
      refine j_iload_n K 2 d_Press_printWith_19 rfl rfl ?_
      refine j_aload_n K 0 d_Press_printWith_20 rfl rfl ?_
      refine eg_Press_book K ef_Press_21 q8 d_Press_printWith_21 ?_
      obtain ⟨o13, e13, h⟩ := bo_e h
      refine j_eqq e13 ?_
      obtain ⟨q14, h⟩ := ck_e h
      refine eg_Book_meant K ef_Press_36 q14 d_Press_printWith_24 ?_
      obtain ⟨o15, e15, h⟩ := bo_e h
      refine j_eqq e15 ?_
      refine j_iload_n K 2 d_Press_printWith_27 rfl rfl ?_
      obtain ⟨q16, h⟩ := ck_e h
      obtain ⟨q17, h⟩ := ck_e h
      refine e_iald K q16 (inb_e q17) d_Press_printWith_28 ?_
      obtain ⟨v18, e18, h⟩ := lt_e h
      refine j_eqi e18 ?_
      obtain ⟨q19, h⟩ := ck_e h
      obtain ⟨q20, h⟩ := ck_e h
      obtain ⟨κ21, e21, h⟩ := lt_e h
      refine e_iast K q19 (inb_e q20) d_Press_printWith_29 e21 ?_
      exact t_Press_printWith_30 K hN hr hlk N ρ this a1 a2 κ21 h
def p_RowSearch_keepIfFewer (N : Nat) (this : Nat) (a1 : Nat) (a2 : Int32) (κ : Cz) : Option (Cz) := ck (isK κ this 5) (bo (fr κ this 0) (fun o2 => ck (isK κ o2 4) (bd (p_Press_howManyWrong N o2 a1 κ) (fun r3 κ3 => ck (isK κ3 this 5) (if (fi κ3 this 4) ≤ r3 then some κ3 else lt (sfi this 4 r3 κ3) (fun κ6 => bo (fr κ6 this 2) (fun o7 => bo (fr κ6 this 3) (fun o8 => ck (isK κ6 o7 20) (ck (isK κ6 o8 20) (ck (decide (¬ a2 < 0)) (ck (decide ((0 : Int32).toNatClampNeg + a2.toNatClampNeg ≤ ln κ6 o7)) (ck (decide ((0 : Int32).toNatClampNeg + a2.toNatClampNeg ≤ ln κ6 o8)) (lt (sai o8 (va_cpy (ai κ6 o7) (ai κ6 o8) (0 : Int32).toNatClampNeg (0 : Int32).toNatClampNeg a2.toNatClampNeg) κ6) (fun κ14 => some κ14))))))))))))))
set_option maxHeartbeats 4000000 in
set_option maxRecDepth 100000 in
theorem c_RowSearch_keepIfFewer_ok (l : Launch) (D : va_G) (θ : Tc) (N : Nat) (this : Nat) (a1 : Nat) (a2 : Int32) (κ : Cz) (ρ : Cz) (h : p_RowSearch_keepIfFewer N this a1 a2 κ = some ρ) : CEv l D θ y_RowSearch_keepIfFewer c_RowSearch_keepIfFewer 4 none 3 0 0 [.ref this, .ref a1, .int a2] κ ρ := by
  intro sz
  refine e_met l [.ref this, .ref a1, .int a2] (by decide +kernel) (Nat.le_of_ble_eq_true rfl) ?_
  intro p e s m args below meth c K hN hr hlk hnm hs
  generalize va_A (wE θ κ) sz = A at K ⊢
  have K : KE p s m args c c_RowSearch_keepIfFewer 4 "ErrataRow$RowSearch" y_RowSearch_keepIfFewer none D θ A := K
  show JE p l e (rmA 3 0 0) s m args below meth c D θ A 4 0 0 (QEv below args s D θ A 0 0 ρ) κ [(0, .ref this), (1, .ref a1), (2, .int a2)] [] 0
  unfold p_RowSearch_keepIfFewer at h
  refine j_aload_n K 0 d_RowSearch_keepIfFewer_0 rfl rfl ?_
  obtain ⟨q1, h⟩ := ck_e h
  refine eg_RowSearch_press K ef_RowSearch_24 q1 d_RowSearch_keepIfFewer_1 ?_
  obtain ⟨o2, e2, h⟩ := bo_e h
  refine j_eqq e2 ?_
  refine j_aload_n K 1 d_RowSearch_keepIfFewer_4 rfl rfl ?_
  obtain ⟨q4, h⟩ := ck_e h
  obtain ⟨r3, κ3, e3, h⟩ := bd_e h
  refine ecallV_i K hN (c_Press_howManyWrong_ok l D θ N o2 a1 κ _ e3) eG_RowSearch_64 eh_Press_howManyWrong (by decide) (rmA_ok (by decide) (by decide)) rfl q4 (by decide) rfl (st := []) (Nat.le_of_ble_eq_true rfl) rfl d_RowSearch_keepIfFewer_5 ⟨Nat.le_of_ble_eq_true rfl, Nat.le_of_ble_eq_true rfl⟩ ?_
  refine j_istore_n (lv' := [(3, .int r3), (0, .ref this), (1, .ref a1), (2, .int a2)]) K d_RowSearch_keepIfFewer_8 rfl (by decide) rfl ?_
  refine j_iload_n K 0 d_RowSearch_keepIfFewer_9 rfl rfl ?_
  refine j_aload_n K 1 d_RowSearch_keepIfFewer_10 rfl rfl ?_
  obtain ⟨q5, h⟩ := ck_e h
  refine eg_RowSearch_fewest K ef_RowSearch_29 q5 d_RowSearch_keepIfFewer_11 ?_
  refine j_icmp_ge (tgt := 36) K d_RowSearch_keepIfFewer_14 (by decide) (fun q => ?_) (fun q => ?_)
  · have h := if_t h q
    exact eret_v K h hr hlk d_RowSearch_keepIfFewer_36
  · have h := if_f h q
    refine j_aload_n K 1 d_RowSearch_keepIfFewer_17 rfl rfl ?_
    refine j_iload_n K 0 d_RowSearch_keepIfFewer_18 rfl rfl ?_
    obtain ⟨κ6, e6, h⟩ := lt_e h
    refine ep_RowSearch_fewest K ef_RowSearch_29 q5 d_RowSearch_keepIfFewer_19 e6 ?_
    refine j_aload_n K 1 d_RowSearch_keepIfFewer_22 rfl rfl ?_
    refine eg_RowSearch_tried K ef_RowSearch_17 (isK_sfi e6 q5) d_RowSearch_keepIfFewer_23 ?_
    obtain ⟨o7, e7, h⟩ := bo_e h
    refine j_eqq e7 ?_
    refine j_iconst (v := 0) K d_RowSearch_keepIfFewer_26 (by decide) ?_
    refine j_aload_n K 1 d_RowSearch_keepIfFewer_27 rfl rfl ?_
    refine eg_RowSearch_best K ef_RowSearch_21 (isK_sfi e6 q5) d_RowSearch_keepIfFewer_28 ?_
    obtain ⟨o8, e8, h⟩ := bo_e h
    refine j_eqq e8 ?_
    refine j_iconst (v := 0) K d_RowSearch_keepIfFewer_31 (by decide) ?_
    refine j_iload_n K 3 d_RowSearch_keepIfFewer_32 rfl rfl ?_
    obtain ⟨q9, h⟩ := ck_e h
    obtain ⟨q10, h⟩ := ck_e h
    obtain ⟨q11, h⟩ := ck_e h
    obtain ⟨q12, h⟩ := ck_e h
    obtain ⟨q13, h⟩ := ck_e h
    obtain ⟨κ14, e14, h⟩ := lt_e h
    refine e_copy K el_RowSearch_67 en_copy es_copy ei_System q9 q10 (by decide) (by decide) (of_decide_eq_true q11) (of_decide_eq_true q12) (of_decide_eq_true q13) (by decide) (Nat.le_of_ble_eq_true rfl) d_RowSearch_keepIfFewer_33 e14 ?_
    exact eret_v K h hr hlk d_RowSearch_keepIfFewer_36
def b_Rule_sumFor_62 (N : Nat) (x0 : Nat) (x1 : Nat) (x2 : Int32) (x3 : Int32) (κ : Cz) : Option (Int64 × Cz) := ck (isK κ x0 6) (bo (fr κ x0 1) (fun o11 => ck (isK κ o11 20) (ck (inb x3 (ln κ o11)) (bd (p_Rule_valueOf N x0 x2 (ai κ o11 x3.toNatClampNeg) x1 κ) (fun r14 κ14 => some (r14, κ14))))))
set_option maxHeartbeats 4000000 in
set_option maxRecDepth 100000 in
theorem t_Rule_sumFor_62 {p : Program} {l : Launch} {e : Env} {s : State} {m : MethodId} {args : Array Value} {below : List Frame} {meth : Method} {c : Code} {D : va_G} {θ : Tc} {A : Nat → Prop} (K : KE p s m args c c_Rule_sumFor 5 "ErrataRow$Rule" y_Rule_sumFor (some .long) D θ A) (hN : NX s) (hr : meth.sig.returnType = (some .long)) (hlk : meth.locks = false) (N : Nat) (ρ : Int64 × Cz) (x0 : Nat) (x1 : Nat) (x2 : Int32) (x3 : Int32) (κ : Cz) (h : b_Rule_sumFor_62 N x0 x1 x2 x3 κ = some ρ) : JE p l e (rmA 3 0 0) s m args below meth c D θ A 5 0 0 (QEl below args s D θ A 0 0 ρ) κ [(0, .ref x0), (1, .ref x1), (2, .int x2), (3, .int x3)] [] 62 := by
  unfold b_Rule_sumFor_62 at h
  refine j_aload_n K 0 d_Rule_sumFor_62 rfl rfl ?_
  refine j_iload_n K 2 d_Rule_sumFor_63 rfl rfl ?_
  refine j_aload_n K 0 d_Rule_sumFor_64 rfl rfl ?_
  obtain ⟨q10, h⟩ := ck_e h
  refine eg_Rule_sumEnds K ef_Rule_13 q10 d_Rule_sumFor_65 ?_
  obtain ⟨o11, e11, h⟩ := bo_e h
  refine j_eqq e11 ?_
  refine j_iload_n K 3 d_Rule_sumFor_68 rfl rfl ?_
  obtain ⟨q12, h⟩ := ck_e h
  obtain ⟨q13, h⟩ := ck_e h
  refine e_iald K q12 (inb_e q13) d_Rule_sumFor_69 ?_
  refine j_aload_n K 1 d_Rule_sumFor_70 rfl rfl ?_
  obtain ⟨r14, κ14, e14, h⟩ := bd_e h
  refine ecallV_l K hN (c_Rule_valueOf_ok l D θ N x0 x2 (ai κ o11 x3.toNatClampNeg) x1 κ _ e14) eG_Rule_23 eh_Rule_valueOf (by decide) (rmA_ok (by decide) (by decide)) rfl q10 (by decide) rfl (st := []) (Nat.le_of_ble_eq_true rfl) rfl d_Rule_sumFor_71 ⟨Nat.le_of_ble_eq_true rfl, Nat.le_of_ble_eq_true rfl⟩ ?_
  exact eret_l K h hr hlk d_Rule_sumFor_74
def b_Rule_sumFor_33 (N : Nat) (k4 : Nat → Nat → Int32 → Int32 → Cz → Option (Int64 × Cz)) (x0 : Nat) (x1 : Nat) (x2 : Int32) (x3 : Int32) (t0 : Int32) (κ : Cz) : Option (Int64 × Cz) := if t0 = 0 then b_Rule_sumFor_62 N x0 x1 x2 x3 κ else ck (isK κ x0 6) (bo (fr κ x0 1) (fun o16 => ck (isK κ o16 20) (ck (inb x3 (ln κ o16)) (bo (fr κ x0 2) (fun o19 => ck (isK κ o19 20) (ck (inb x3 (ln κ o19)) (bd (p_Rule_valueOf N x0 (ai κ o16 x3.toNatClampNeg) (ai κ o19 x3.toNatClampNeg) x1 κ) (fun r22 κ22 => if (lg_cmp r22 0) = 0 then ck (isK κ22 x0 6) (bo (fr κ22 x0 2) (fun o24 => ck (isK κ22 o24 20) (ck (inb x3 (ln κ22 o24)) (lt (ai κ22 o24 x3.toNatClampNeg) (fun v27 => lt (x3 + 1) (fun v28 => k4 x0 x1 v27 v28 κ22)))))) else b_Rule_sumFor_62 N x0 x1 x2 x3 κ22))))))))
set_option maxHeartbeats 4000000 in
set_option maxRecDepth 100000 in
theorem t_Rule_sumFor_33 {p : Program} {l : Launch} {e : Env} {s : State} {m : MethodId} {args : Array Value} {below : List Frame} {meth : Method} {c : Code} {D : va_G} {θ : Tc} {A : Nat → Prop} (K : KE p s m args c c_Rule_sumFor 5 "ErrataRow$Rule" y_Rule_sumFor (some .long) D θ A) (hN : NX s) (hr : meth.sig.returnType = (some .long)) (hlk : meth.locks = false) (N : Nat) (ρ : Int64 × Cz) (k4 : Nat → Nat → Int32 → Int32 → Cz → Option (Int64 × Cz)) (hk4 : ∀ (x0 : Nat) (x1 : Nat) (x2 : Int32) (x3 : Int32) (κ : Cz), k4 x0 x1 x2 x3 κ = some ρ → JE p l e (rmA 3 0 0) s m args below meth c D θ A 5 0 0 (QEl below args s D θ A 0 0 ρ) κ [(0, .ref x0), (1, .ref x1), (2, .int x2), (3, .int x3)] [] 4) (x0 : Nat) (x1 : Nat) (x2 : Int32) (x3 : Int32) (t0 : Int32) (κ : Cz) (h : b_Rule_sumFor_33 N k4 x0 x1 x2 x3 t0 κ = some ρ) : JE p l e (rmA 3 0 0) s m args below meth c D θ A 5 0 0 (QEl below args s D θ A 0 0 ρ) κ [(0, .ref x0), (1, .ref x1), (2, .int x2), (3, .int x3)] [.int t0] 33 := by
  unfold b_Rule_sumFor_33 at h
  refine j_istore (lv' := [(4, .int t0), (0, .ref x0), (1, .ref x1), (2, .int x2), (3, .int x3)]) K d_Rule_sumFor_33 (by decide) rfl ?_
  refine j_iload K 0 d_Rule_sumFor_35 rfl ?_
  refine j_if_eq (tgt := 62) K d_Rule_sumFor_37 (by decide) (fun q => ?_) (fun q => ?_)
  · have h := if_t h q
    refine j_sub [1, 2, 3, 4] rfl ?_
    exact t_Rule_sumFor_62 K hN hr hlk N ρ x0 x1 x2 x3 κ h
  · have h := if_f h q
    refine j_aload_n K 1 d_Rule_sumFor_40 rfl rfl ?_
    refine j_aload_n K 1 d_Rule_sumFor_41 rfl rfl ?_
    obtain ⟨q15, h⟩ := ck_e h
    refine eg_Rule_sumEnds K ef_Rule_13 q15 d_Rule_sumFor_42 ?_
    obtain ⟨o16, e16, h⟩ := bo_e h
    refine j_eqq e16 ?_
    refine j_iload_n K 4 d_Rule_sumFor_45 rfl rfl ?_
    obtain ⟨q17, h⟩ := ck_e h
    obtain ⟨q18, h⟩ := ck_e h
    refine e_iald K q17 (inb_e q18) d_Rule_sumFor_46 ?_
    refine j_aload_n K 1 d_Rule_sumFor_47 rfl rfl ?_
    refine eg_Rule_clauseEnds K ef_Rule_16 q15 d_Rule_sumFor_48 ?_
    obtain ⟨o19, e19, h⟩ := bo_e h
    refine j_eqq e19 ?_
    refine j_iload_n K 4 d_Rule_sumFor_51 rfl rfl ?_
    obtain ⟨q20, h⟩ := ck_e h
    obtain ⟨q21, h⟩ := ck_e h
    refine e_iald K q20 (inb_e q21) d_Rule_sumFor_52 ?_
    refine j_aload_n K 2 d_Rule_sumFor_53 rfl rfl ?_
    obtain ⟨r22, κ22, e22, h⟩ := bd_e h
    refine ecallV_l K hN (c_Rule_valueOf_ok l D θ N x0 (ai κ o16 x3.toNatClampNeg) (ai κ o19 x3.toNatClampNeg) x1 κ _ e22) eG_Rule_23 eh_Rule_valueOf (by decide) (rmA_ok (by decide) (by decide)) rfl q15 (by decide) rfl (st := []) (Nat.le_of_ble_eq_true rfl) rfl d_Rule_sumFor_54 ⟨Nat.le_of_ble_eq_true rfl, Nat.le_of_ble_eq_true rfl⟩ ?_
    refine j_lconst (v := 0) K d_Rule_sumFor_57 (by decide) ?_
    refine j_lcmp K d_Rule_sumFor_58 ?_
    refine j_if_eq (tgt := 75) K d_Rule_sumFor_59 (by decide) (fun q => ?_) (fun q => ?_)
    · have h := if_t h q
      refine j_aload_n K 1 d_Rule_sumFor_75 rfl rfl ?_
      obtain ⟨q23, h⟩ := ck_e h
      refine eg_Rule_clauseEnds K ef_Rule_16 q23 d_Rule_sumFor_76 ?_
      obtain ⟨o24, e24, h⟩ := bo_e h
      refine j_eqq e24 ?_
      refine j_iload_n K 4 d_Rule_sumFor_79 rfl rfl ?_
      obtain ⟨q25, h⟩ := ck_e h
      obtain ⟨q26, h⟩ := ck_e h
      refine e_iald K q25 (inb_e q26) d_Rule_sumFor_80 ?_
      obtain ⟨v27, e27, h⟩ := lt_e h
      refine j_eqi e27 ?_
      refine j_istore_n (lv' := [(2, .int v27), (4, .int t0), (0, .ref x0), (1, .ref x1), (3, .int x3)]) K d_Rule_sumFor_81 rfl (by decide) rfl ?_
      obtain ⟨v28, e28, h⟩ := lt_e h
      refine j_iinc (k := 4) (v := v28) (lv' := [(3, .int v28), (2, .int v27), (4, .int t0), (0, .ref x0), (1, .ref x1)]) K d_Rule_sumFor_82 rfl (by rw [e28]; rfl) (by decide) rfl ?_
      refine j_goto (tgt := 4) K d_Rule_sumFor_85 (by decide) ?_
      refine j_sub [3, 4, 1, 0] rfl ?_
      exact hk4 x0 x1 v27 v28 κ22 h
    · have h := if_f h q
      refine j_sub [1, 2, 3, 4] rfl ?_
      exact t_Rule_sumFor_62 K hN hr hlk N ρ x0 x1 x2 x3 κ22 h
def b_Rule_sumFor_4 (N : Nat) : Nat → Nat → Nat → Int32 → Int32 → Cz → Option (Int64 × Cz)
  | 0, _, _, _, _, _ => none
  | n + 1, x0, x1, x2, x3, κ => ck (isK κ x0 6) (bo (fr κ x0 2) (fun o2 => ck (isK κ o2 20) (if (nI (ln κ o2)) ≤ x3 then some (0, κ) else bo (fr κ x0 1) (fun o4 => ck (isK κ o4 20) (ck (inb x3 (ln κ o4)) (bo (fr κ x0 2) (fun o7 => ck (isK κ o7 20) (ck (inb x3 (ln κ o7)) (if (ai κ o7 x3.toNatClampNeg) ≤ (ai κ o4 x3.toNatClampNeg) then b_Rule_sumFor_33 N (b_Rule_sumFor_4 N n) x0 x1 x2 x3 0 κ else b_Rule_sumFor_33 N (b_Rule_sumFor_4 N n) x0 x1 x2 x3 1 κ)))))))))
set_option maxHeartbeats 4000000 in
set_option maxRecDepth 100000 in
theorem t_Rule_sumFor_4 {p : Program} {l : Launch} {e : Env} {s : State} {m : MethodId} {args : Array Value} {below : List Frame} {meth : Method} {c : Code} {D : va_G} {θ : Tc} {A : Nat → Prop} (K : KE p s m args c c_Rule_sumFor 5 "ErrataRow$Rule" y_Rule_sumFor (some .long) D θ A) (hN : NX s) (hr : meth.sig.returnType = (some .long)) (hlk : meth.locks = false) (N : Nat) (ρ : Int64 × Cz) : ∀ (n : Nat) (x0 : Nat) (x1 : Nat) (x2 : Int32) (x3 : Int32) (κ : Cz), b_Rule_sumFor_4 N n x0 x1 x2 x3 κ = some ρ → JE p l e (rmA 3 0 0) s m args below meth c D θ A 5 0 0 (QEl below args s D θ A 0 0 ρ) κ [(0, .ref x0), (1, .ref x1), (2, .int x2), (3, .int x3)] [] 4 := by
  intro n
  induction n with
  | zero =>
    intro x0 x1 x2 x3 κ h
    exact absurd h (by simp [b_Rule_sumFor_4])
  | succ n ih =>
    intro x0 x1 x2 x3 κ h
    rw [b_Rule_sumFor_4] at h
    refine j_iload_n K 3 d_Rule_sumFor_4 rfl rfl ?_
    refine j_aload_n K 0 d_Rule_sumFor_5 rfl rfl ?_
    obtain ⟨q1, h⟩ := ck_e h
    refine eg_Rule_clauseEnds K ef_Rule_16 q1 d_Rule_sumFor_6 ?_
    obtain ⟨o2, e2, h⟩ := bo_e h
    refine j_eqq e2 ?_
    obtain ⟨q3, h⟩ := ck_e h
    refine e_alen K q3 d_Rule_sumFor_9 ?_
    refine j_icmp_ge (tgt := 88) K d_Rule_sumFor_10 (by decide) (fun q => ?_) (fun q => ?_)
    · have h := if_t h q
      refine j_lconst (v := 0) K d_Rule_sumFor_88 (by decide) ?_
      exact eret_l K h hr hlk d_Rule_sumFor_89
    · have h := if_f h q
      refine j_aload_n K 0 d_Rule_sumFor_13 rfl rfl ?_
      refine eg_Rule_sumEnds K ef_Rule_13 q1 d_Rule_sumFor_14 ?_
      obtain ⟨o4, e4, h⟩ := bo_e h
      refine j_eqq e4 ?_
      refine j_iload_n K 3 d_Rule_sumFor_17 rfl rfl ?_
      obtain ⟨q5, h⟩ := ck_e h
      obtain ⟨q6, h⟩ := ck_e h
      refine e_iald K q5 (inb_e q6) d_Rule_sumFor_18 ?_
      refine j_aload_n K 0 d_Rule_sumFor_19 rfl rfl ?_
      refine eg_Rule_clauseEnds K ef_Rule_16 q1 d_Rule_sumFor_20 ?_
      obtain ⟨o7, e7, h⟩ := bo_e h
      refine j_eqq e7 ?_
      refine j_iload_n K 3 d_Rule_sumFor_23 rfl rfl ?_
      obtain ⟨q8, h⟩ := ck_e h
      obtain ⟨q9, h⟩ := ck_e h
      refine e_iald K q8 (inb_e q9) d_Rule_sumFor_24 ?_
      refine j_icmp_ge (tgt := 32) K d_Rule_sumFor_25 (by decide) (fun q => ?_) (fun q => ?_)
      · have h := if_t h q
        refine j_iconst (v := 0) K d_Rule_sumFor_32 (by decide) ?_
        exact t_Rule_sumFor_33 K hN hr hlk N ρ (b_Rule_sumFor_4 N n) ih x0 x1 x2 x3 0 κ h
      · have h := if_f h q
        refine j_iconst (v := 1) K d_Rule_sumFor_28 (by decide) ?_
        refine j_goto (tgt := 33) K d_Rule_sumFor_29 (by decide) ?_
        exact t_Rule_sumFor_33 K hN hr hlk N ρ (b_Rule_sumFor_4 N n) ih x0 x1 x2 x3 1 κ h
def p_Rule_sumFor (N : Nat) (this : Nat) (a1 : Nat) (κ : Cz) : Option (Int64 × Cz) := b_Rule_sumFor_4 N N this a1 0 0 κ
set_option maxHeartbeats 4000000 in
set_option maxRecDepth 100000 in
theorem c_Rule_sumFor_ok (l : Launch) (D : va_G) (θ : Tc) (N : Nat) (this : Nat) (a1 : Nat) (κ : Cz) (ρ : Int64 × Cz) (h : p_Rule_sumFor N this a1 κ = some ρ) : CEl l D θ y_Rule_sumFor c_Rule_sumFor 5 (some .long) 3 0 0 [.ref this, .ref a1] κ ρ := by
  intro sz
  refine e_met l [.ref this, .ref a1] (by decide +kernel) (Nat.le_of_ble_eq_true rfl) ?_
  intro p e s m args below meth c K hN hr hlk hnm hs
  generalize va_A (wE θ κ) sz = A at K ⊢
  have K : KE p s m args c c_Rule_sumFor 5 "ErrataRow$Rule" y_Rule_sumFor (some .long) D θ A := K
  show JE p l e (rmA 3 0 0) s m args below meth c D θ A 5 0 0 (QEl below args s D θ A 0 0 ρ) κ [(0, .ref this), (1, .ref a1)] [] 0
  unfold p_Rule_sumFor at h
  refine j_iconst (v := 0) K d_Rule_sumFor_0 (by decide) ?_
  refine j_istore_n (lv' := [(2, .int 0), (0, .ref this), (1, .ref a1)]) K d_Rule_sumFor_1 rfl (by decide) rfl ?_
  refine j_iconst (v := 0) K d_Rule_sumFor_2 (by decide) ?_
  refine j_istore_n (lv' := [(3, .int 0), (2, .int 0), (0, .ref this), (1, .ref a1)]) K d_Rule_sumFor_3 rfl (by decide) rfl ?_
  refine j_sub [2, 3, 1, 0] rfl ?_
  exact t_Rule_sumFor_4 K hN hr hlk N ρ N this a1 0 0 κ h
def b_RuleReader_readSum_44 (N : Nat) (k6 : Nat → Int32 → Int32 → Int32 → Cz → Option (Cz)) (x0 : Nat) (x2 : Int32) (x3 : Int32) (κ : Cz) : Option (Cz) := ck (isK κ x0 7) (bd (p_RuleReader_codeOfSum N x0 κ) (fun r10 κ10 => if r10 = 0 then some κ10 else ck (isK κ10 x0 7) (bo (fr κ10 x0 0) (fun o13 => ck (isK κ10 o13 9) (bo (p_Tokens_goOn N o13 κ10) (fun κ14 => lt (x3 + 1) (fun v16 => k6 x0 r10 x2 v16 κ14)))))))
set_option maxHeartbeats 4000000 in
set_option maxRecDepth 100000 in
theorem t_RuleReader_readSum_44 {p : Program} {l : Launch} {e : Env} {s : State} {m : MethodId} {args : Array Value} {below : List Frame} {meth : Method} {c : Code} {D : va_G} {θ : Tc} {A : Nat → Prop} (K : KE p s m args c c_RuleReader_readSum 4 "ErrataRow$RuleReader" y_RuleReader_readSum none D θ A) (hN : NX s) (hr : meth.sig.returnType = none) (hlk : meth.locks = false) (N : Nat) (ρ : Cz) (k6 : Nat → Int32 → Int32 → Int32 → Cz → Option (Cz)) (hk6 : ∀ (x0 : Nat) (x1 : Int32) (x2 : Int32) (x3 : Int32) (κ : Cz), k6 x0 x1 x2 x3 κ = some ρ → JE p l e (rmA 3 0 0) s m args below meth c D θ A 4 0 0 (QEv below args s D θ A 0 0 ρ) κ [(0, .ref x0), (1, .int x1), (2, .int x2), (3, .int x3)] [] 6) (x0 : Nat) (x2 : Int32) (x3 : Int32) (κ : Cz) (h : b_RuleReader_readSum_44 N k6 x0 x2 x3 κ = some ρ) : JE p l e (rmA 3 0 0) s m args below meth c D θ A 4 0 0 (QEv below args s D θ A 0 0 ρ) κ [(0, .ref x0), (2, .int x2), (3, .int x3)] [] 44 := by
  unfold b_RuleReader_readSum_44 at h
  refine j_aload_n K 0 d_RuleReader_readSum_44 rfl rfl ?_
  obtain ⟨q11, h⟩ := ck_e h
  obtain ⟨r10, κ10, e10, h⟩ := bd_e h
  refine ecallV_i K hN (c_RuleReader_codeOfSum_ok l D θ N x0 κ _ e10) eG_RuleReader_96 eh_RuleReader_codeOfSum (by decide) (rmA_ok (by decide) (by decide)) rfl q11 (by decide) rfl (st := []) (Nat.le_of_ble_eq_true rfl) rfl d_RuleReader_readSum_45 ⟨Nat.le_of_ble_eq_true rfl, Nat.le_of_ble_eq_true rfl⟩ ?_
  refine j_istore_n (lv' := [(1, .int r10), (0, .ref x0), (2, .int x2), (3, .int x3)]) K d_RuleReader_readSum_48 rfl (by decide) rfl ?_
  refine j_iload_n K 0 d_RuleReader_readSum_49 rfl rfl ?_
  refine j_if_ne (tgt := 54) K d_RuleReader_readSum_50 (by decide) (fun q => ?_) (fun q => ?_)
  · have h := if_f h q
    refine j_aload_n K 1 d_RuleReader_readSum_54 rfl rfl ?_
    obtain ⟨q12, h⟩ := ck_e h
    refine eg_RuleReader_tokens K ef_RuleReader_21 q12 d_RuleReader_readSum_55 ?_
    obtain ⟨o13, e13, h⟩ := bo_e h
    refine j_eqq e13 ?_
    obtain ⟨q15, h⟩ := ck_e h
    obtain ⟨κ14, e14, h⟩ := bo_e h
    refine ecallV_v K hN (c_Tokens_goOn_ok l D θ N o13 κ10 _ e14) eG_RuleReader_59 eh_Tokens_goOn (by decide) (rmA_ok (by decide) (by decide)) rfl q15 (by decide) rfl (st := []) (Nat.le_of_ble_eq_true rfl) rfl d_RuleReader_readSum_58 ⟨Nat.le_of_ble_eq_true rfl, Nat.le_of_ble_eq_true rfl⟩ ?_
    obtain ⟨v16, e16, h⟩ := lt_e h
    refine j_iinc (k := 3) (v := v16) (lv' := [(3, .int v16), (1, .int r10), (0, .ref x0), (2, .int x2)]) K d_RuleReader_readSum_61 rfl (by rw [e16]; rfl) (by decide) rfl ?_
    refine j_goto (tgt := 6) K d_RuleReader_readSum_64 (by decide) ?_
    refine j_sub [2, 1, 3, 0] rfl ?_
    exact hk6 x0 r10 x2 v16 κ14 h
  · have h := if_t h q
    exact eret_v K h hr hlk d_RuleReader_readSum_53
def b_RuleReader_readSum_26 (N : Nat) (k6 : Nat → Int32 → Int32 → Int32 → Cz → Option (Cz)) (x0 : Nat) (x1 : Int32) (x3 : Int32) (κ : Cz) : Option (Cz) := ck (isK κ x0 7) (bd (p_RuleReader_codeOfTerm N x0 κ) (fun r3 κ3 => if r3 = 0 then if x1 = 0 then b_RuleReader_readSum_44 N k6 x0 r3 x3 κ3 else ck (isK κ3 x0 7) (bo (p_RuleReader_add N x0 x1 κ3) (fun κ17 => b_RuleReader_readSum_44 N k6 x0 r3 x3 κ17)) else ck (isK κ3 x0 7) (bo (fr κ3 x0 0) (fun o6 => ck (isK κ3 o6 9) (bo (p_Tokens_goOn N o6 κ3) (fun κ7 => lt (x3 + 1) (fun v9 => k6 x0 x1 r3 v9 κ7)))))))
set_option maxHeartbeats 4000000 in
set_option maxRecDepth 100000 in
theorem t_RuleReader_readSum_26 {p : Program} {l : Launch} {e : Env} {s : State} {m : MethodId} {args : Array Value} {below : List Frame} {meth : Method} {c : Code} {D : va_G} {θ : Tc} {A : Nat → Prop} (K : KE p s m args c c_RuleReader_readSum 4 "ErrataRow$RuleReader" y_RuleReader_readSum none D θ A) (hN : NX s) (hr : meth.sig.returnType = none) (hlk : meth.locks = false) (N : Nat) (ρ : Cz) (k6 : Nat → Int32 → Int32 → Int32 → Cz → Option (Cz)) (hk6 : ∀ (x0 : Nat) (x1 : Int32) (x2 : Int32) (x3 : Int32) (κ : Cz), k6 x0 x1 x2 x3 κ = some ρ → JE p l e (rmA 3 0 0) s m args below meth c D θ A 4 0 0 (QEv below args s D θ A 0 0 ρ) κ [(0, .ref x0), (1, .int x1), (2, .int x2), (3, .int x3)] [] 6) (x0 : Nat) (x1 : Int32) (x3 : Int32) (κ : Cz) (h : b_RuleReader_readSum_26 N k6 x0 x1 x3 κ = some ρ) : JE p l e (rmA 3 0 0) s m args below meth c D θ A 4 0 0 (QEv below args s D θ A 0 0 ρ) κ [(0, .ref x0), (1, .int x1), (3, .int x3)] [] 26 := by
  unfold b_RuleReader_readSum_26 at h
  refine j_aload_n K 0 d_RuleReader_readSum_26 rfl rfl ?_
  obtain ⟨q4, h⟩ := ck_e h
  obtain ⟨r3, κ3, e3, h⟩ := bd_e h
  refine ecallV_i K hN (c_RuleReader_codeOfTerm_ok l D θ N x0 κ _ e3) eG_RuleReader_93 eh_RuleReader_codeOfTerm (by decide) (rmA_ok (by decide) (by decide)) rfl q4 (by decide) rfl (st := []) (Nat.le_of_ble_eq_true rfl) rfl d_RuleReader_readSum_27 ⟨Nat.le_of_ble_eq_true rfl, Nat.le_of_ble_eq_true rfl⟩ ?_
  refine j_istore_n (lv' := [(2, .int r3), (0, .ref x0), (1, .int x1), (3, .int x3)]) K d_RuleReader_readSum_30 rfl (by decide) rfl ?_
  refine j_iload_n K 0 d_RuleReader_readSum_31 rfl rfl ?_
  refine j_if_ne (tgt := 54) K d_RuleReader_readSum_32 (by decide) (fun q => ?_) (fun q => ?_)
  · have h := if_f h q
    refine j_aload_n K 1 d_RuleReader_readSum_54 rfl rfl ?_
    obtain ⟨q5, h⟩ := ck_e h
    refine eg_RuleReader_tokens K ef_RuleReader_21 q5 d_RuleReader_readSum_55 ?_
    obtain ⟨o6, e6, h⟩ := bo_e h
    refine j_eqq e6 ?_
    obtain ⟨q8, h⟩ := ck_e h
    obtain ⟨κ7, e7, h⟩ := bo_e h
    refine ecallV_v K hN (c_Tokens_goOn_ok l D θ N o6 κ3 _ e7) eG_RuleReader_59 eh_Tokens_goOn (by decide) (rmA_ok (by decide) (by decide)) rfl q8 (by decide) rfl (st := []) (Nat.le_of_ble_eq_true rfl) rfl d_RuleReader_readSum_58 ⟨Nat.le_of_ble_eq_true rfl, Nat.le_of_ble_eq_true rfl⟩ ?_
    obtain ⟨v9, e9, h⟩ := lt_e h
    refine j_iinc (k := 3) (v := v9) (lv' := [(3, .int v9), (2, .int r3), (0, .ref x0), (1, .int x1)]) K d_RuleReader_readSum_61 rfl (by rw [e9]; rfl) (by decide) rfl ?_
    refine j_goto (tgt := 6) K d_RuleReader_readSum_64 (by decide) ?_
    refine j_sub [2, 3, 1, 0] rfl ?_
    exact hk6 x0 x1 r3 v9 κ7 h
  · have h := if_t h q
    refine j_iload_n K 2 d_RuleReader_readSum_35 rfl rfl ?_
    refine j_if_eq (tgt := 44) K d_RuleReader_readSum_36 (by decide) (fun q => ?_) (fun q => ?_)
    · have h := if_t h q
      refine j_sub [1, 0, 3] rfl ?_
      exact t_RuleReader_readSum_44 K hN hr hlk N ρ k6 hk6 x0 r3 x3 κ3 h
    · have h := if_f h q
      refine j_aload_n K 1 d_RuleReader_readSum_39 rfl rfl ?_
      refine j_iload_n K 2 d_RuleReader_readSum_40 rfl rfl ?_
      obtain ⟨q18, h⟩ := ck_e h
      obtain ⟨κ17, e17, h⟩ := bo_e h
      refine ecallV_v K hN (c_RuleReader_add_ok l D θ N x0 x1 κ3 _ e17) eG_RuleReader_77 eh_RuleReader_add (by decide) (rmA_ok (by decide) (by decide)) rfl q18 (by decide) rfl (st := []) (Nat.le_of_ble_eq_true rfl) rfl d_RuleReader_readSum_41 ⟨Nat.le_of_ble_eq_true rfl, Nat.le_of_ble_eq_true rfl⟩ ?_
      refine j_sub [1, 0, 3] rfl ?_
      exact t_RuleReader_readSum_44 K hN hr hlk N ρ k6 hk6 x0 r3 x3 κ17 h
def b_RuleReader_readSum_6 (N : Nat) : Nat → Nat → Int32 → Int32 → Int32 → Cz → Option (Cz)
  | 0, _, _, _, _, _ => none
  | n + 1, x0, x1, x2, x3, κ => if 400 ≤ x3 then some κ else ck (isK κ x0 7) (bo (p_RuleReader_readValue N x0 κ) (fun κ1 => if x2 = 0 then b_RuleReader_readSum_26 N (b_RuleReader_readSum_6 N n) x0 x1 x3 κ1 else ck (isK κ1 x0 7) (bo (p_RuleReader_add N x0 x2 κ1) (fun κ19 => b_RuleReader_readSum_26 N (b_RuleReader_readSum_6 N n) x0 x1 x3 κ19))))
set_option maxHeartbeats 4000000 in
set_option maxRecDepth 100000 in
theorem t_RuleReader_readSum_6 {p : Program} {l : Launch} {e : Env} {s : State} {m : MethodId} {args : Array Value} {below : List Frame} {meth : Method} {c : Code} {D : va_G} {θ : Tc} {A : Nat → Prop} (K : KE p s m args c c_RuleReader_readSum 4 "ErrataRow$RuleReader" y_RuleReader_readSum none D θ A) (hN : NX s) (hr : meth.sig.returnType = none) (hlk : meth.locks = false) (N : Nat) (ρ : Cz) : ∀ (n : Nat) (x0 : Nat) (x1 : Int32) (x2 : Int32) (x3 : Int32) (κ : Cz), b_RuleReader_readSum_6 N n x0 x1 x2 x3 κ = some ρ → JE p l e (rmA 3 0 0) s m args below meth c D θ A 4 0 0 (QEv below args s D θ A 0 0 ρ) κ [(0, .ref x0), (1, .int x1), (2, .int x2), (3, .int x3)] [] 6 := by
  intro n
  induction n with
  | zero =>
    intro x0 x1 x2 x3 κ h
    exact absurd h (by simp [b_RuleReader_readSum_6])
  | succ n ih =>
    intro x0 x1 x2 x3 κ h
    rw [b_RuleReader_readSum_6] at h
    refine j_iload_n K 3 d_RuleReader_readSum_6 rfl rfl ?_
    refine j_sipush (v := 400) K d_RuleReader_readSum_7 (by decide) ?_
    refine j_icmp_ge (tgt := 67) K d_RuleReader_readSum_10 (by decide) (fun q => ?_) (fun q => ?_)
    · have h := if_t h q
      exact eret_v K h hr hlk d_RuleReader_readSum_67
    · have h := if_f h q
      refine j_aload_n K 0 d_RuleReader_readSum_13 rfl rfl ?_
      obtain ⟨q2, h⟩ := ck_e h
      obtain ⟨κ1, e1, h⟩ := bo_e h
      refine ecallV_v K hN (c_RuleReader_readValue_ok l D θ N x0 κ _ e1) eG_RuleReader_90 eh_RuleReader_readValue (by decide) (rmA_ok (by decide) (by decide)) rfl q2 (by decide) rfl (st := []) (Nat.le_of_ble_eq_true rfl) rfl d_RuleReader_readSum_14 ⟨Nat.le_of_ble_eq_true rfl, Nat.le_of_ble_eq_true rfl⟩ ?_
      refine j_iload_n K 2 d_RuleReader_readSum_17 rfl rfl ?_
      refine j_if_eq (tgt := 26) K d_RuleReader_readSum_18 (by decide) (fun q => ?_) (fun q => ?_)
      · have h := if_t h q
        refine j_sub [0, 1, 3] rfl ?_
        exact t_RuleReader_readSum_26 K hN hr hlk N ρ (b_RuleReader_readSum_6 N n) ih x0 x1 x3 κ1 h
      · have h := if_f h q
        refine j_aload_n K 0 d_RuleReader_readSum_21 rfl rfl ?_
        refine j_iload_n K 2 d_RuleReader_readSum_22 rfl rfl ?_
        obtain ⟨q20, h⟩ := ck_e h
        obtain ⟨κ19, e19, h⟩ := bo_e h
        refine ecallV_v K hN (c_RuleReader_add_ok l D θ N x0 x2 κ1 _ e19) eG_RuleReader_77 eh_RuleReader_add (by decide) (rmA_ok (by decide) (by decide)) rfl q20 (by decide) rfl (st := []) (Nat.le_of_ble_eq_true rfl) rfl d_RuleReader_readSum_23 ⟨Nat.le_of_ble_eq_true rfl, Nat.le_of_ble_eq_true rfl⟩ ?_
        refine j_sub [0, 1, 3] rfl ?_
        exact t_RuleReader_readSum_26 K hN hr hlk N ρ (b_RuleReader_readSum_6 N n) ih x0 x1 x3 κ19 h
def p_RuleReader_readSum (N : Nat) (this : Nat) (κ : Cz) : Option (Cz) := b_RuleReader_readSum_6 N N this 0 0 0 κ
set_option maxHeartbeats 4000000 in
set_option maxRecDepth 100000 in
theorem c_RuleReader_readSum_ok (l : Launch) (D : va_G) (θ : Tc) (N : Nat) (this : Nat) (κ : Cz) (ρ : Cz) (h : p_RuleReader_readSum N this κ = some ρ) : CEv l D θ y_RuleReader_readSum c_RuleReader_readSum 4 none 3 0 0 [.ref this] κ ρ := by
  intro sz
  refine e_met l [.ref this] (by decide +kernel) (Nat.le_of_ble_eq_true rfl) ?_
  intro p e s m args below meth c K hN hr hlk hnm hs
  generalize va_A (wE θ κ) sz = A at K ⊢
  have K : KE p s m args c c_RuleReader_readSum 4 "ErrataRow$RuleReader" y_RuleReader_readSum none D θ A := K
  show JE p l e (rmA 3 0 0) s m args below meth c D θ A 4 0 0 (QEv below args s D θ A 0 0 ρ) κ [(0, .ref this)] [] 0
  unfold p_RuleReader_readSum at h
  refine j_iconst (v := 0) K d_RuleReader_readSum_0 (by decide) ?_
  refine j_istore_n (lv' := [(1, .int 0), (0, .ref this)]) K d_RuleReader_readSum_1 rfl (by decide) rfl ?_
  refine j_iconst (v := 0) K d_RuleReader_readSum_2 (by decide) ?_
  refine j_istore_n (lv' := [(2, .int 0), (1, .int 0), (0, .ref this)]) K d_RuleReader_readSum_3 rfl (by decide) rfl ?_
  refine j_iconst (v := 0) K d_RuleReader_readSum_4 (by decide) ?_
  refine j_istore_n (lv' := [(3, .int 0), (2, .int 0), (1, .int 0), (0, .ref this)]) K d_RuleReader_readSum_5 rfl (by decide) rfl ?_
  refine j_sub [3, 2, 1, 0] rfl ?_
  exact t_RuleReader_readSum_6 K hN hr hlk N ρ N this 0 0 0 κ h
def p_World_open (N : Nat) (this : Nat) (a1 : Nat) (κ : Cz) : Option (Cz) := ck (isK κ this 10) (bo (fr κ this 0) (fun o2 => ck (isK κ o2 0) (bo (p_Book_copyFrom N o2 a1 κ) (fun κ3 => ck (isK κ3 this 10) (bo (fr κ3 this 1) (fun o6 => ck (isK κ3 a1 0) (bo (fr κ3 a1 7) (fun o8 => ck (isK κ3 o6 8) (bo (p_State_copyFrom N o6 o8 κ3) (fun κ9 => ck (isK κ9 this 10) (bo (fr κ9 this 2) (fun o12 => ck (isK κ9 o12 3) (lt (sfi o12 0 0 κ9) (fun κ14 => some κ14))))))))))))))
set_option maxHeartbeats 4000000 in
set_option maxRecDepth 100000 in
theorem c_World_open_ok (l : Launch) (D : va_G) (θ : Tc) (N : Nat) (this : Nat) (a1 : Nat) (κ : Cz) (ρ : Cz) (h : p_World_open N this a1 κ = some ρ) : CEv l D θ y_World_open c_World_open 2 none 3 0 0 [.ref this, .ref a1] κ ρ := by
  intro sz
  refine e_met l [.ref this, .ref a1] (by decide +kernel) (Nat.le_of_ble_eq_true rfl) ?_
  intro p e s m args below meth c K hN hr hlk hnm hs
  generalize va_A (wE θ κ) sz = A at K ⊢
  have K : KE p s m args c c_World_open 2 "ErrataRow$World" y_World_open none D θ A := K
  show JE p l e (rmA 3 0 0) s m args below meth c D θ A 2 0 0 (QEv below args s D θ A 0 0 ρ) κ [(0, .ref this), (1, .ref a1)] [] 0
  unfold p_World_open at h
  refine j_aload_n K 0 d_World_open_0 rfl rfl ?_
  obtain ⟨q1, h⟩ := ck_e h
  refine eg_World_book K ef_World_12 q1 d_World_open_1 ?_
  obtain ⟨o2, e2, h⟩ := bo_e h
  refine j_eqq e2 ?_
  refine j_aload_n K 1 d_World_open_4 rfl rfl ?_
  obtain ⟨q4, h⟩ := ck_e h
  obtain ⟨κ3, e3, h⟩ := bo_e h
  refine ecallV_v K hN (c_Book_copyFrom_ok l D θ N o2 a1 κ _ e3) eG_World_36 eh_Book_copyFrom (by decide) (rmA_ok (by decide) (by decide)) rfl q4 (by decide) rfl (st := []) (Nat.le_of_ble_eq_true rfl) rfl d_World_open_5 ⟨Nat.le_of_ble_eq_true rfl, Nat.le_of_ble_eq_true rfl⟩ ?_
  refine j_aload_n K 0 d_World_open_8 rfl rfl ?_
  obtain ⟨q5, h⟩ := ck_e h
  refine eg_World_now K ef_World_21 q5 d_World_open_9 ?_
  obtain ⟨o6, e6, h⟩ := bo_e h
  refine j_eqq e6 ?_
  refine j_aload_n K 1 d_World_open_12 rfl rfl ?_
  obtain ⟨q7, h⟩ := ck_e h
  refine eg_Book_begin K ef_World_40 q7 d_World_open_13 ?_
  obtain ⟨o8, e8, h⟩ := bo_e h
  refine j_eqq e8 ?_
  obtain ⟨q10, h⟩ := ck_e h
  obtain ⟨κ9, e9, h⟩ := bo_e h
  refine ecallV_v K hN (c_State_copyFrom_ok l D θ N o6 o8 κ3 _ e9) eG_World_43 eh_State_copyFrom (by decide) (rmA_ok (by decide) (by decide)) rfl q10 (by decide) rfl (st := []) (Nat.le_of_ble_eq_true rfl) rfl d_World_open_16 ⟨Nat.le_of_ble_eq_true rfl, Nat.le_of_ble_eq_true rfl⟩ ?_
  refine j_aload_n K 0 d_World_open_19 rfl rfl ?_
  obtain ⟨q11, h⟩ := ck_e h
  refine eg_World_notes K ef_World_28 q11 d_World_open_20 ?_
  obtain ⟨o12, e12, h⟩ := bo_e h
  refine j_eqq e12 ?_
  refine j_iconst (v := 0) K d_World_open_23 (by decide) ?_
  obtain ⟨q13, h⟩ := ck_e h
  obtain ⟨κ14, e14, h⟩ := lt_e h
  refine ep_Notes_size K ef_World_46 q13 d_World_open_24 e14 ?_
  exact eret_v K h hr hlk d_World_open_27
def p_World_copyFrom (N : Nat) (this : Nat) (a1 : Nat) (κ : Cz) : Option (Cz) := ck (isK κ this 10) (bo (fr κ this 0) (fun o2 => ck (isK κ a1 10) (bo (fr κ a1 0) (fun o4 => ck (isK κ o2 0) (bo (p_Book_copyFrom N o2 o4 κ) (fun κ5 => ck (isK κ5 this 10) (bo (fr κ5 this 1) (fun o8 => ck (isK κ5 a1 10) (bo (fr κ5 a1 1) (fun o10 => ck (isK κ5 o8 8) (bo (p_State_copyFrom N o8 o10 κ5) (fun κ11 => ck (isK κ11 this 10) (bo (fr κ11 this 2) (fun o14 => ck (isK κ11 a1 10) (bo (fr κ11 a1 2) (fun o16 => ck (isK κ11 o14 3) (bo (p_Notes_copyFrom N o14 o16 κ11) (fun κ17 => ck (isK κ17 a1 10) (lt (fi κ17 a1 3) (fun v20 => ck (isK κ17 this 10) (lt (sfi this 3 v20 κ17) (fun κ22 => lt (fi κ22 a1 4) (fun v23 => lt (sfi this 4 v23 κ22) (fun κ24 => some κ24))))))))))))))))))))))))
set_option maxHeartbeats 4000000 in
set_option maxRecDepth 100000 in
theorem c_World_copyFrom_ok (l : Launch) (D : va_G) (θ : Tc) (N : Nat) (this : Nat) (a1 : Nat) (κ : Cz) (ρ : Cz) (h : p_World_copyFrom N this a1 κ = some ρ) : CEv l D θ y_World_copyFrom c_World_copyFrom 2 none 3 0 0 [.ref this, .ref a1] κ ρ := by
  intro sz
  refine e_met l [.ref this, .ref a1] (by decide +kernel) (Nat.le_of_ble_eq_true rfl) ?_
  intro p e s m args below meth c K hN hr hlk hnm hs
  generalize va_A (wE θ κ) sz = A at K ⊢
  have K : KE p s m args c c_World_copyFrom 2 "ErrataRow$World" y_World_copyFrom none D θ A := K
  show JE p l e (rmA 3 0 0) s m args below meth c D θ A 2 0 0 (QEv below args s D θ A 0 0 ρ) κ [(0, .ref this), (1, .ref a1)] [] 0
  unfold p_World_copyFrom at h
  refine j_aload_n K 0 d_World_copyFrom_0 rfl rfl ?_
  obtain ⟨q1, h⟩ := ck_e h
  refine eg_World_book K ef_World_12 q1 d_World_copyFrom_1 ?_
  obtain ⟨o2, e2, h⟩ := bo_e h
  refine j_eqq e2 ?_
  refine j_aload_n K 1 d_World_copyFrom_4 rfl rfl ?_
  obtain ⟨q3, h⟩ := ck_e h
  refine eg_World_book K ef_World_12 q3 d_World_copyFrom_5 ?_
  obtain ⟨o4, e4, h⟩ := bo_e h
  refine j_eqq e4 ?_
  obtain ⟨q6, h⟩ := ck_e h
  obtain ⟨κ5, e5, h⟩ := bo_e h
  refine ecallV_v K hN (c_Book_copyFrom_ok l D θ N o2 o4 κ _ e5) eG_World_36 eh_Book_copyFrom (by decide) (rmA_ok (by decide) (by decide)) rfl q6 (by decide) rfl (st := []) (Nat.le_of_ble_eq_true rfl) rfl d_World_copyFrom_8 ⟨Nat.le_of_ble_eq_true rfl, Nat.le_of_ble_eq_true rfl⟩ ?_
  refine j_aload_n K 0 d_World_copyFrom_11 rfl rfl ?_
  obtain ⟨q7, h⟩ := ck_e h
  refine eg_World_now K ef_World_21 q7 d_World_copyFrom_12 ?_
  obtain ⟨o8, e8, h⟩ := bo_e h
  refine j_eqq e8 ?_
  refine j_aload_n K 1 d_World_copyFrom_15 rfl rfl ?_
  obtain ⟨q9, h⟩ := ck_e h
  refine eg_World_now K ef_World_21 q9 d_World_copyFrom_16 ?_
  obtain ⟨o10, e10, h⟩ := bo_e h
  refine j_eqq e10 ?_
  obtain ⟨q12, h⟩ := ck_e h
  obtain ⟨κ11, e11, h⟩ := bo_e h
  refine ecallV_v K hN (c_State_copyFrom_ok l D θ N o8 o10 κ5 _ e11) eG_World_43 eh_State_copyFrom (by decide) (rmA_ok (by decide) (by decide)) rfl q12 (by decide) rfl (st := []) (Nat.le_of_ble_eq_true rfl) rfl d_World_copyFrom_19 ⟨Nat.le_of_ble_eq_true rfl, Nat.le_of_ble_eq_true rfl⟩ ?_
  refine j_aload_n K 0 d_World_copyFrom_22 rfl rfl ?_
  obtain ⟨q13, h⟩ := ck_e h
  refine eg_World_notes K ef_World_28 q13 d_World_copyFrom_23 ?_
  obtain ⟨o14, e14, h⟩ := bo_e h
  refine j_eqq e14 ?_
  refine j_aload_n K 1 d_World_copyFrom_26 rfl rfl ?_
  obtain ⟨q15, h⟩ := ck_e h
  refine eg_World_notes K ef_World_28 q15 d_World_copyFrom_27 ?_
  obtain ⟨o16, e16, h⟩ := bo_e h
  refine j_eqq e16 ?_
  obtain ⟨q18, h⟩ := ck_e h
  obtain ⟨κ17, e17, h⟩ := bo_e h
  refine ecallV_v K hN (c_Notes_copyFrom_ok l D θ N o14 o16 κ11 _ e17) eG_World_49 eh_Notes_copyFrom (by decide) (rmA_ok (by decide) (by decide)) rfl q18 (by decide) rfl (st := []) (Nat.le_of_ble_eq_true rfl) rfl d_World_copyFrom_30 ⟨Nat.le_of_ble_eq_true rfl, Nat.le_of_ble_eq_true rfl⟩ ?_
  refine j_aload_n K 0 d_World_copyFrom_33 rfl rfl ?_
  refine j_aload_n K 1 d_World_copyFrom_34 rfl rfl ?_
  obtain ⟨q19, h⟩ := ck_e h
  refine eg_World_inForce K ef_World_32 q19 d_World_copyFrom_35 ?_
  obtain ⟨v20, e20, h⟩ := lt_e h
  refine j_eqi e20 ?_
  obtain ⟨q21, h⟩ := ck_e h
  obtain ⟨κ22, e22, h⟩ := lt_e h
  refine ep_World_inForce K ef_World_32 q21 d_World_copyFrom_38 e22 ?_
  refine j_aload_n K 0 d_World_copyFrom_41 rfl rfl ?_
  refine j_aload_n K 1 d_World_copyFrom_42 rfl rfl ?_
  refine eg_World_x K ef_World_52 (isK_sfi e22 q19) d_World_copyFrom_43 ?_
  obtain ⟨v23, e23, h⟩ := lt_e h
  refine j_eqi e23 ?_
  obtain ⟨κ24, e24, h⟩ := lt_e h
  refine ep_World_x K ef_World_52 (isK_sfi e22 q21) d_World_copyFrom_46 e24 ?_
  exact eret_v K h hr hlk d_World_copyFrom_49
def p_ErrataRow_undo (N : Nat) (this : Nat) (κ : Cz) : Option (Int32 × Cz) := ck (isK κ this 11) (bo (fr κ this 9) (fun o2 => bo (fr κ this 7) (fun o3 => ck (isK κ o3 10) (bo (fr κ o3 1) (fun o5 => ck (isK κ o2 2) (bd (p_History_takeBack N o2 o5 κ) (fun r6 κ6 => if r6 = 0 then some ((-1), κ6) else ck (isK κ6 this 11) (bo (fr κ6 this 9) (fun o9 => ck (isK κ6 o9 2) (some (fi κ6 o9 0, κ6)))))))))))
set_option maxHeartbeats 4000000 in
set_option maxRecDepth 100000 in
theorem c_ErrataRow_undo_ok (l : Launch) (D : va_G) (θ : Tc) (N : Nat) (this : Nat) (κ : Cz) (ρ : Int32 × Cz) (h : p_ErrataRow_undo N this κ = some ρ) : CEi l D θ y_ErrataRow_undo c_ErrataRow_undo 1 (some .int) 3 0 0 [.ref this] κ ρ := by
  intro sz
  refine e_met l [.ref this] (by decide +kernel) (Nat.le_of_ble_eq_true rfl) ?_
  intro p e s m args below meth c K hN hr hlk hnm hs
  generalize va_A (wE θ κ) sz = A at K ⊢
  have K : KE p s m args c c_ErrataRow_undo 1 "ErrataRow" y_ErrataRow_undo (some .int) D θ A := K
  show JE p l e (rmA 3 0 0) s m args below meth c D θ A 1 0 0 (QEi below args s D θ A 0 0 ρ) κ [(0, .ref this)] [] 0
  unfold p_ErrataRow_undo at h
  refine j_aload_n K 0 d_ErrataRow_undo_0 rfl rfl ?_
  obtain ⟨q1, h⟩ := ck_e h
  refine eg_ErrataRow_history K ef_ErrataRow_56 q1 d_ErrataRow_undo_1 ?_
  obtain ⟨o2, e2, h⟩ := bo_e h
  refine j_eqq e2 ?_
  refine j_aload_n K 0 d_ErrataRow_undo_4 rfl rfl ?_
  refine eg_ErrataRow_world K ef_ErrataRow_45 q1 d_ErrataRow_undo_5 ?_
  obtain ⟨o3, e3, h⟩ := bo_e h
  refine j_eqq e3 ?_
  obtain ⟨q4, h⟩ := ck_e h
  refine eg_World_now K ef_ErrataRow_145 q4 d_ErrataRow_undo_8 ?_
  obtain ⟨o5, e5, h⟩ := bo_e h
  refine j_eqq e5 ?_
  obtain ⟨q7, h⟩ := ck_e h
  obtain ⟨r6, κ6, e6, h⟩ := bd_e h
  refine ecallV_i K hN (c_History_takeBack_ok l D θ N o2 o5 κ _ e6) eG_ErrataRow_234 eh_History_takeBack (by decide) (rmA_ok (by decide) (by decide)) rfl q7 (by decide) rfl (st := []) (Nat.le_of_ble_eq_true rfl) rfl d_ErrataRow_undo_11 ⟨Nat.le_of_ble_eq_true rfl, Nat.le_of_ble_eq_true rfl⟩ ?_
  refine j_if_eq (tgt := 27) K d_ErrataRow_undo_14 (by decide) (fun q => ?_) (fun q => ?_)
  · have h := if_t h q
    refine j_iconst (v := (-1)) K d_ErrataRow_undo_27 (by decide) ?_
    exact eret_i K h hr hlk d_ErrataRow_undo_28
  · have h := if_f h q
    refine j_aload_n K 0 d_ErrataRow_undo_17 rfl rfl ?_
    obtain ⟨q8, h⟩ := ck_e h
    refine eg_ErrataRow_history K ef_ErrataRow_56 q8 d_ErrataRow_undo_18 ?_
    obtain ⟨o9, e9, h⟩ := bo_e h
    refine j_eqq e9 ?_
    obtain ⟨q10, h⟩ := ck_e h
    refine eg_History_size K ef_ErrataRow_204 q10 d_ErrataRow_undo_21 ?_
    refine j_goto (tgt := 28) K d_ErrataRow_undo_24 (by decide) ?_
    exact eret_i K h hr hlk d_ErrataRow_undo_28
def p_ErrataRow_startFrom (N : Nat) (this : Nat) (a1 : Nat) (κ : Cz) : Option (Cz) := ck (isK κ this 11) (bo (fr κ this 7) (fun o2 => ck (isK κ o2 10) (bo (p_ErrataRow_readyPress N this (fi κ o2 3) κ) (fun κ4 => ck (isK κ4 this 11) (bo (fr κ4 this 12) (fun o6 => ck (isK κ4 o6 8) (bo (p_State_copyFrom N o6 a1 κ4) (fun κ7 => some κ7))))))))
set_option maxHeartbeats 4000000 in
set_option maxRecDepth 100000 in
theorem c_ErrataRow_startFrom_ok (l : Launch) (D : va_G) (θ : Tc) (N : Nat) (this : Nat) (a1 : Nat) (κ : Cz) (ρ : Cz) (h : p_ErrataRow_startFrom N this a1 κ = some ρ) : CEv l D θ y_ErrataRow_startFrom c_ErrataRow_startFrom 2 none 3 0 0 [.ref this, .ref a1] κ ρ := by
  intro sz
  refine e_met l [.ref this, .ref a1] (by decide +kernel) (Nat.le_of_ble_eq_true rfl) ?_
  intro p e s m args below meth c K hN hr hlk hnm hs
  generalize va_A (wE θ κ) sz = A at K ⊢
  have K : KE p s m args c c_ErrataRow_startFrom 2 "ErrataRow" y_ErrataRow_startFrom none D θ A := K
  show JE p l e (rmA 3 0 0) s m args below meth c D θ A 2 0 0 (QEv below args s D θ A 0 0 ρ) κ [(0, .ref this), (1, .ref a1)] [] 0
  unfold p_ErrataRow_startFrom at h
  refine j_aload_n K 0 d_ErrataRow_startFrom_0 rfl rfl ?_
  refine j_aload_n K 0 d_ErrataRow_startFrom_1 rfl rfl ?_
  obtain ⟨q1, h⟩ := ck_e h
  refine eg_ErrataRow_world K ef_ErrataRow_45 q1 d_ErrataRow_startFrom_2 ?_
  obtain ⟨o2, e2, h⟩ := bo_e h
  refine j_eqq e2 ?_
  obtain ⟨q3, h⟩ := ck_e h
  refine eg_World_inForce K ef_ErrataRow_138 q3 d_ErrataRow_startFrom_5 ?_
  obtain ⟨κ4, e4, h⟩ := bo_e h
  refine ecallV_v K hN (c_ErrataRow_readyPress_ok l D θ N this (fi κ o2 3) κ _ e4) eG_ErrataRow_212 eh_ErrataRow_readyPress (by decide) (rmA_ok (by decide) (by decide)) rfl q1 (by decide) rfl (st := []) (Nat.le_of_ble_eq_true rfl) rfl d_ErrataRow_startFrom_8 ⟨Nat.le_of_ble_eq_true rfl, Nat.le_of_ble_eq_true rfl⟩ ?_
  refine j_aload_n K 0 d_ErrataRow_startFrom_11 rfl rfl ?_
  obtain ⟨q5, h⟩ := ck_e h
  refine eg_ErrataRow_trial K ef_ErrataRow_85 q5 d_ErrataRow_startFrom_12 ?_
  obtain ⟨o6, e6, h⟩ := bo_e h
  refine j_eqq e6 ?_
  refine j_aload_n K 1 d_ErrataRow_startFrom_15 rfl rfl ?_
  obtain ⟨q8, h⟩ := ck_e h
  obtain ⟨κ7, e7, h⟩ := bo_e h
  refine ecallV_v K hN (c_State_copyFrom_ok l D θ N o6 a1 κ4 _ e7) eG_ErrataRow_249 eh_State_copyFrom (by decide) (rmA_ok (by decide) (by decide)) rfl q8 (by decide) rfl (st := []) (Nat.le_of_ble_eq_true rfl) rfl d_ErrataRow_startFrom_16 ⟨Nat.le_of_ble_eq_true rfl, Nat.le_of_ble_eq_true rfl⟩ ?_
  exact eret_v K h hr hlk d_ErrataRow_startFrom_19
def b_ErrataRow_rings_34 (N : Nat) : Nat → Nat → Int32 → Int32 → Int32 → Cz → Option (Int32 × Cz)
  | 0, _, _, _, _, _ => none
  | n + 1, x0, x1, x2, x3, κ => ck (isK κ x0 11) (bo (fr κ x0 7) (fun o13 => ck (isK κ o13 10) (bo (fr κ o13 0) (fun o15 => ck (isK κ o15 0) (if (fi κ o15 2) ≤ x3 then some (x2, κ) else bd (p_ErrataRow_hasBit N x1 x3 κ) (fun r17 κ17 => if r17 = 0 then lt (x3 + 1) (fun v18 => b_ErrataRow_rings_34 N n x0 x1 x2 v18 κ17) else ck (isK κ17 x0 11) (bd (p_ErrataRow_hungOver N x0 x3 x1 κ17) (fun r19 κ19 => bd (p_ErrataRow_hasBit N r19 x3 κ19) (fun r21 κ21 => if r21 = 0 then lt (x3 + 1) (fun v22 => b_ErrataRow_rings_34 N n x0 x1 x2 v22 κ21) else lt (x2 ||| ((1 : Int32) <<< (x3 &&& 31))) (fun v23 => lt (x3 + 1) (fun v24 => b_ErrataRow_rings_34 N n x0 x1 v23 v24 κ21)))))))))))
set_option maxHeartbeats 4000000 in
set_option maxRecDepth 100000 in
theorem t_ErrataRow_rings_34 {p : Program} {l : Launch} {e : Env} {s : State} {m : MethodId} {args : Array Value} {below : List Frame} {meth : Method} {c : Code} {D : va_G} {θ : Tc} {A : Nat → Prop} (K : KE p s m args c c_ErrataRow_rings 4 "ErrataRow" y_ErrataRow_rings (some .int) D θ A) (hN : NX s) (hr : meth.sig.returnType = (some .int)) (hlk : meth.locks = false) (N : Nat) (ρ : Int32 × Cz) : ∀ (n : Nat) (x0 : Nat) (x1 : Int32) (x2 : Int32) (x3 : Int32) (κ : Cz), b_ErrataRow_rings_34 N n x0 x1 x2 x3 κ = some ρ → JE p l e (rmA 3 0 0) s m args below meth c D θ A 4 0 0 (QEi below args s D θ A 0 0 ρ) κ [(0, .ref x0), (1, .int x1), (2, .int x2), (3, .int x3)] [] 34 := by
  intro n
  induction n with
  | zero =>
    intro x0 x1 x2 x3 κ h
    exact absurd h (by simp [b_ErrataRow_rings_34])
  | succ n ih =>
    intro x0 x1 x2 x3 κ h
    rw [b_ErrataRow_rings_34] at h
    refine j_iload_n K 3 d_ErrataRow_rings_34 rfl rfl ?_
    refine j_aload_n K 0 d_ErrataRow_rings_35 rfl rfl ?_
    obtain ⟨q12, h⟩ := ck_e h
    refine eg_ErrataRow_world K ef_ErrataRow_45 q12 d_ErrataRow_rings_36 ?_
    obtain ⟨o13, e13, h⟩ := bo_e h
    refine j_eqq e13 ?_
    obtain ⟨q14, h⟩ := ck_e h
    refine eg_World_book K ef_ErrataRow_62 q14 d_ErrataRow_rings_39 ?_
    obtain ⟨o15, e15, h⟩ := bo_e h
    refine j_eqq e15 ?_
    obtain ⟨q16, h⟩ := ck_e h
    refine eg_Book_letters K ef_ErrataRow_123 q16 d_ErrataRow_rings_42 ?_
    refine j_icmp_ge (tgt := 81) K d_ErrataRow_rings_45 (by decide) (fun q => ?_) (fun q => ?_)
    · have h := if_t h q
      refine j_iload_n K 2 d_ErrataRow_rings_81 rfl rfl ?_
      exact eret_i K h hr hlk d_ErrataRow_rings_82
    · have h := if_f h q
      refine j_iload_n K 1 d_ErrataRow_rings_48 rfl rfl ?_
      refine j_iload_n K 3 d_ErrataRow_rings_49 rfl rfl ?_
      obtain ⟨r17, κ17, e17, h⟩ := bd_e h
      refine ecallS_i K hN (c_ErrataRow_hasBit_ok l D θ N x1 x3 κ _ e17) eG_ErrataRow_221 eh_ErrataRow_hasBit (by decide) (rmA_ok (by decide) (by decide)) rfl (st := []) (Nat.le_of_ble_eq_true rfl) rfl d_ErrataRow_rings_50 ⟨Nat.le_of_ble_eq_true rfl, Nat.le_of_ble_eq_true rfl⟩ ?_
      refine j_if_eq (tgt := 75) K d_ErrataRow_rings_53 (by decide) (fun q => ?_) (fun q => ?_)
      · have h := if_t h q
        obtain ⟨v18, e18, h⟩ := lt_e h
        refine j_iinc (k := 3) (v := v18) (lv' := [(3, .int v18), (0, .ref x0), (1, .int x1), (2, .int x2)]) K d_ErrataRow_rings_75 rfl (by rw [e18]; rfl) (by decide) rfl ?_
        refine j_goto (tgt := 34) K d_ErrataRow_rings_78 (by decide) ?_
        refine j_sub [1, 2, 3, 0] rfl ?_
        exact ih x0 x1 x2 v18 κ17 h
      · have h := if_f h q
        refine j_aload_n K 0 d_ErrataRow_rings_56 rfl rfl ?_
        refine j_iload_n K 3 d_ErrataRow_rings_57 rfl rfl ?_
        refine j_iload_n K 1 d_ErrataRow_rings_58 rfl rfl ?_
        obtain ⟨q20, h⟩ := ck_e h
        obtain ⟨r19, κ19, e19, h⟩ := bd_e h
        refine ecallV_i K hN (c_ErrataRow_hungOver_ok l D θ N x0 x3 x1 κ17 _ e19) eG_ErrataRow_284 eh_ErrataRow_hungOver (by decide) (rmA_ok (by decide) (by decide)) rfl q20 (by decide) rfl (st := []) (Nat.le_of_ble_eq_true rfl) rfl d_ErrataRow_rings_59 ⟨Nat.le_of_ble_eq_true rfl, Nat.le_of_ble_eq_true rfl⟩ ?_
        refine j_iload_n K 3 d_ErrataRow_rings_62 rfl rfl ?_
        obtain ⟨r21, κ21, e21, h⟩ := bd_e h
        refine ecallS_i K hN (c_ErrataRow_hasBit_ok l D θ N r19 x3 κ19 _ e21) eG_ErrataRow_221 eh_ErrataRow_hasBit (by decide) (rmA_ok (by decide) (by decide)) rfl (st := []) (Nat.le_of_ble_eq_true rfl) rfl d_ErrataRow_rings_63 ⟨Nat.le_of_ble_eq_true rfl, Nat.le_of_ble_eq_true rfl⟩ ?_
        refine j_if_eq (tgt := 75) K d_ErrataRow_rings_66 (by decide) (fun q => ?_) (fun q => ?_)
        · have h := if_t h q
          obtain ⟨v22, e22, h⟩ := lt_e h
          refine j_iinc (k := 3) (v := v22) (lv' := [(3, .int v22), (0, .ref x0), (1, .int x1), (2, .int x2)]) K d_ErrataRow_rings_75 rfl (by rw [e22]; rfl) (by decide) rfl ?_
          refine j_goto (tgt := 34) K d_ErrataRow_rings_78 (by decide) ?_
          refine j_sub [1, 2, 3, 0] rfl ?_
          exact ih x0 x1 x2 v22 κ21 h
        · have h := if_f h q
          refine j_iload_n K 2 d_ErrataRow_rings_69 rfl rfl ?_
          refine j_iconst (v := 1) K d_ErrataRow_rings_70 (by decide) ?_
          refine j_iload_n K 3 d_ErrataRow_rings_71 rfl rfl ?_
          refine j_ishl K d_ErrataRow_rings_72 ?_
          refine j_ior K d_ErrataRow_rings_73 ?_
          obtain ⟨v23, e23, h⟩ := lt_e h
          refine j_eqi e23 ?_
          refine j_istore_n (lv' := [(2, .int v23), (0, .ref x0), (1, .int x1), (3, .int x3)]) K d_ErrataRow_rings_74 rfl (by decide) rfl ?_
          obtain ⟨v24, e24, h⟩ := lt_e h
          refine j_iinc (k := 3) (v := v24) (lv' := [(3, .int v24), (2, .int v23), (0, .ref x0), (1, .int x1)]) K d_ErrataRow_rings_75 rfl (by rw [e24]; rfl) (by decide) rfl ?_
          refine j_goto (tgt := 34) K d_ErrataRow_rings_78 (by decide) ?_
          refine j_sub [2, 3, 1, 0] rfl ?_
          exact ih x0 x1 v23 v24 κ21 h
def p_ErrataRow_rings (N : Nat) (this : Nat) (κ : Cz) : Option (Int32 × Cz) := ck (isK κ this 11) (bo (fr κ this 7) (fun o2 => ck (isK κ o2 10) (bo (fr κ o2 0) (fun o4 => ck (isK κ o4 0) (if (fi κ o4 0) = 0 then some ((-1), κ) else bo (fr κ this 10) (fun o6 => bo (fr κ this 7) (fun o7 => ck (isK κ o7 10) (bo (fr κ o7 1) (fun o9 => ck (isK κ o6 4) (bd (p_Press_wrongOf N o6 o9 κ) (fun r10 κ10 => b_ErrataRow_rings_34 N N this r10 0 0 κ10)))))))))))
set_option maxHeartbeats 4000000 in
set_option maxRecDepth 100000 in
theorem c_ErrataRow_rings_ok (l : Launch) (D : va_G) (θ : Tc) (N : Nat) (this : Nat) (κ : Cz) (ρ : Int32 × Cz) (h : p_ErrataRow_rings N this κ = some ρ) : CEi l D θ y_ErrataRow_rings c_ErrataRow_rings 4 (some .int) 3 0 0 [.ref this] κ ρ := by
  intro sz
  refine e_met l [.ref this] (by decide +kernel) (Nat.le_of_ble_eq_true rfl) ?_
  intro p e s m args below meth c K hN hr hlk hnm hs
  generalize va_A (wE θ κ) sz = A at K ⊢
  have K : KE p s m args c c_ErrataRow_rings 4 "ErrataRow" y_ErrataRow_rings (some .int) D θ A := K
  show JE p l e (rmA 3 0 0) s m args below meth c D θ A 4 0 0 (QEi below args s D θ A 0 0 ρ) κ [(0, .ref this)] [] 0
  unfold p_ErrataRow_rings at h
  refine j_aload_n K 0 d_ErrataRow_rings_0 rfl rfl ?_
  obtain ⟨q1, h⟩ := ck_e h
  refine eg_ErrataRow_world K ef_ErrataRow_45 q1 d_ErrataRow_rings_1 ?_
  obtain ⟨o2, e2, h⟩ := bo_e h
  refine j_eqq e2 ?_
  obtain ⟨q3, h⟩ := ck_e h
  refine eg_World_book K ef_ErrataRow_62 q3 d_ErrataRow_rings_4 ?_
  obtain ⟨o4, e4, h⟩ := bo_e h
  refine j_eqq e4 ?_
  obtain ⟨q5, h⟩ := ck_e h
  refine eg_Book_told K ef_ErrataRow_160 q5 d_ErrataRow_rings_7 ?_
  refine j_if_ne (tgt := 15) K d_ErrataRow_rings_10 (by decide) (fun q => ?_) (fun q => ?_)
  · have h := if_f h q
    refine j_aload_n K 0 d_ErrataRow_rings_15 rfl rfl ?_
    refine eg_ErrataRow_press K ef_ErrataRow_69 q1 d_ErrataRow_rings_16 ?_
    obtain ⟨o6, e6, h⟩ := bo_e h
    refine j_eqq e6 ?_
    refine j_aload_n K 0 d_ErrataRow_rings_19 rfl rfl ?_
    refine eg_ErrataRow_world K ef_ErrataRow_45 q1 d_ErrataRow_rings_20 ?_
    obtain ⟨o7, e7, h⟩ := bo_e h
    refine j_eqq e7 ?_
    obtain ⟨q8, h⟩ := ck_e h
    refine eg_World_now K ef_ErrataRow_145 q8 d_ErrataRow_rings_23 ?_
    obtain ⟨o9, e9, h⟩ := bo_e h
    refine j_eqq e9 ?_
    obtain ⟨q11, h⟩ := ck_e h
    obtain ⟨r10, κ10, e10, h⟩ := bd_e h
    refine ecallV_i K hN (c_Press_wrongOf_ok l D θ N o6 o9 κ _ e10) eG_ErrataRow_182 eh_Press_wrongOf (by decide) (rmA_ok (by decide) (by decide)) rfl q11 (by decide) rfl (st := []) (Nat.le_of_ble_eq_true rfl) rfl d_ErrataRow_rings_26 ⟨Nat.le_of_ble_eq_true rfl, Nat.le_of_ble_eq_true rfl⟩ ?_
    refine j_istore_n (lv' := [(1, .int r10), (0, .ref this)]) K d_ErrataRow_rings_29 rfl (by decide) rfl ?_
    refine j_iconst (v := 0) K d_ErrataRow_rings_30 (by decide) ?_
    refine j_istore_n (lv' := [(2, .int 0), (1, .int r10), (0, .ref this)]) K d_ErrataRow_rings_31 rfl (by decide) rfl ?_
    refine j_iconst (v := 0) K d_ErrataRow_rings_32 (by decide) ?_
    refine j_istore_n (lv' := [(3, .int 0), (2, .int 0), (1, .int r10), (0, .ref this)]) K d_ErrataRow_rings_33 rfl (by decide) rfl ?_
    refine j_sub [3, 2, 1, 0] rfl ?_
    exact t_ErrataRow_rings_34 K hN hr hlk N ρ N this r10 0 0 κ10 h
  · have h := if_t h q
    refine j_iconst (v := (-1)) K d_ErrataRow_rings_13 (by decide) ?_
    exact eret_i K h hr hlk d_ErrataRow_rings_14
