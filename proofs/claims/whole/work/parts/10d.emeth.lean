def p_ErrataRow_seed (N : Nat) (this : Nat) (a1 : Int32) (κ : Cz) : Option (Int32 × Cz) := if 0 ≤ a1 then ck (isK κ this 11) (bo (fr κ this 7) (fun o2 => ck (isK κ o2 10) (lt (fi κ o2 4) (fun v4 => bo (fr κ this 7) (fun o5 => ck (isK κ o5 10) (lt (sfi o5 4 a1 κ) (fun κ7 => some (v4, κ7)))))))) else some ((-1), κ)
set_option maxHeartbeats 4000000 in
set_option maxRecDepth 100000 in
theorem c_ErrataRow_seed_ok (l : Launch) (D : va_G) (θ : Tc) (N : Nat) (this : Nat) (a1 : Int32) (κ : Cz) (ρ : Int32 × Cz) (h : p_ErrataRow_seed N this a1 κ = some ρ) : CEi l D θ y_ErrataRow_seed c_ErrataRow_seed 3 (some .int) 1 0 0 [.ref this, .int a1] κ ρ := by
  intro sz
  refine e_met l [.ref this, .int a1] (by decide +kernel) (Nat.le_of_ble_eq_true rfl) ?_
  intro p e s m args below meth c K hN hr hlk hnm hs
  generalize va_A (wE θ κ) sz = A at K ⊢
  have K : KE p s m args c c_ErrataRow_seed 3 "ErrataRow" y_ErrataRow_seed (some .int) D θ A := K
  show JE p l e (rmA 1 0 0) s m args below meth c D θ A 3 0 0 (QEi below args s D θ A 0 0 ρ) κ [(0, .ref this), (1, .int a1)] [] 0
  unfold p_ErrataRow_seed at h
  refine j_iload_n K 1 d_ErrataRow_seed_0 rfl rfl ?_
  refine j_if_ge (tgt := 6) K d_ErrataRow_seed_1 (by decide) (fun q => ?_) (fun q => ?_)
  · have h := if_t h q
    refine j_aload_n K 0 d_ErrataRow_seed_6 rfl rfl ?_
    obtain ⟨q1, h⟩ := ck_e h
    refine eg_ErrataRow_world K ef_ErrataRow_45 q1 d_ErrataRow_seed_7 ?_
    obtain ⟨o2, e2, h⟩ := bo_e h
    refine j_eqq e2 ?_
    obtain ⟨q3, h⟩ := ck_e h
    refine eg_World_x K ef_ErrataRow_205 q3 d_ErrataRow_seed_10 ?_
    obtain ⟨v4, e4, h⟩ := lt_e h
    refine j_eqi e4 ?_
    refine j_istore_n (lv' := [(2, .int v4), (0, .ref this), (1, .int a1)]) K d_ErrataRow_seed_13 rfl (by decide) rfl ?_
    refine j_aload_n K 1 d_ErrataRow_seed_14 rfl rfl ?_
    refine eg_ErrataRow_world K ef_ErrataRow_45 q1 d_ErrataRow_seed_15 ?_
    obtain ⟨o5, e5, h⟩ := bo_e h
    refine j_eqq e5 ?_
    refine j_iload_n K 2 d_ErrataRow_seed_18 rfl rfl ?_
    obtain ⟨q6, h⟩ := ck_e h
    obtain ⟨κ7, e7, h⟩ := lt_e h
    refine ep_World_x K ef_ErrataRow_205 q6 d_ErrataRow_seed_19 e7 ?_
    refine j_iload_n K 0 d_ErrataRow_seed_22 rfl rfl ?_
    exact eret_i K h hr hlk d_ErrataRow_seed_23
  · have h := if_f h q
    refine j_iconst (v := (-1)) K d_ErrataRow_seed_4 (by decide) ?_
    exact eret_i K h hr hlk d_ErrataRow_seed_5
def p_ErrataRow_nextX (N : Nat) (a1 : Int32) (κ : Cz) : Option (Int32 × Cz) := some (((((a1.toInt64) * 1103515245) + 12345) - (((a1.toInt64) * 1103515245) + 12345) / 2147483648 * 2147483648).toInt32, κ)
set_option maxHeartbeats 4000000 in
set_option maxRecDepth 100000 in
theorem c_ErrataRow_nextX_ok (l : Launch) (D : va_G) (θ : Tc) (N : Nat) (a1 : Int32) (κ : Cz) (ρ : Int32 × Cz) (h : p_ErrataRow_nextX N a1 κ = some ρ) : CEi l D θ y_ErrataRow_nextX c_ErrataRow_nextX 1 (some .int) 1 0 0 [.int a1] κ ρ := by
  intro sz
  refine e_met l [.int a1] (by decide +kernel) (Nat.le_of_ble_eq_true rfl) ?_
  intro p e s m args below meth c K hN hr hlk hnm hs
  generalize va_A (wE θ κ) sz = A at K ⊢
  have K : KE p s m args c c_ErrataRow_nextX 1 "ErrataRow" y_ErrataRow_nextX (some .int) D θ A := K
  show JE p l e (rmA 1 0 0) s m args below meth c D θ A 1 0 0 (QEi below args s D θ A 0 0 ρ) κ [(0, .int a1)] [] 0
  unfold p_ErrataRow_nextX at h
  refine j_iload_n K 0 d_ErrataRow_nextX_0 rfl rfl ?_
  refine j_i2l K d_ErrataRow_nextX_1 ?_
  refine j_ldc2 (v := 1103515245) K (List.mem_cons_of_mem _ ek_ErrataRow_364) d_ErrataRow_nextX_2 ?_
  refine j_lmul K d_ErrataRow_nextX_5 ?_
  refine j_ldc2 (v := 12345) K (List.mem_cons_of_mem _ ek_ErrataRow_366) d_ErrataRow_nextX_6 ?_
  refine j_ladd K d_ErrataRow_nextX_9 ?_
  refine j_ldc2 (v := 2147483648) K (List.mem_cons_of_mem _ ek_ErrataRow_368) d_ErrataRow_nextX_10 ?_
  refine j_lrem K d_ErrataRow_nextX_13 (by decide) ?_
  refine j_l2i K d_ErrataRow_nextX_14 ?_
  exact eret_i K h hr hlk d_ErrataRow_nextX_15
def p_ErrataRow_drawOf (N : Nat) (a1 : Int32) (κ : Cz) : Option (Int32 × Cz) := some (a1 / 65536, κ)
set_option maxHeartbeats 4000000 in
set_option maxRecDepth 100000 in
theorem c_ErrataRow_drawOf_ok (l : Launch) (D : va_G) (θ : Tc) (N : Nat) (a1 : Int32) (κ : Cz) (ρ : Int32 × Cz) (h : p_ErrataRow_drawOf N a1 κ = some ρ) : CEi l D θ y_ErrataRow_drawOf c_ErrataRow_drawOf 1 (some .int) 1 0 0 [.int a1] κ ρ := by
  intro sz
  refine e_met l [.int a1] (by decide +kernel) (Nat.le_of_ble_eq_true rfl) ?_
  intro p e s m args below meth c K hN hr hlk hnm hs
  generalize va_A (wE θ κ) sz = A at K ⊢
  have K : KE p s m args c c_ErrataRow_drawOf 1 "ErrataRow" y_ErrataRow_drawOf (some .int) D θ A := K
  show JE p l e (rmA 1 0 0) s m args below meth c D θ A 1 0 0 (QEi below args s D θ A 0 0 ρ) κ [(0, .int a1)] [] 0
  unfold p_ErrataRow_drawOf at h
  refine j_iload_n K 0 d_ErrataRow_drawOf_0 rfl rfl ?_
  refine j_ldcw (v := 65536) K (List.mem_cons_of_mem _ ek_ErrataRow_370) d_ErrataRow_drawOf_1 ?_
  refine j_idiv K d_ErrataRow_drawOf_4 (by decide) ?_
  exact eret_i K h hr hlk d_ErrataRow_drawOf_5
def p_Integer_bitCount (N : Nat) (a1 : Int32) (κ : Cz) : Option (Int32 × Cz) := lt (a1 - (((a1.toUInt32 >>> ((1 : Int32).toUInt32 &&& Int32.toUInt32 31)).toInt32) &&& 1431655765)) (fun v1 => lt ((v1 &&& 858993459) + (((v1.toUInt32 >>> ((2 : Int32).toUInt32 &&& Int32.toUInt32 31)).toInt32) &&& 858993459)) (fun v2 => lt ((v2 + ((v2.toUInt32 >>> ((4 : Int32).toUInt32 &&& Int32.toUInt32 31)).toInt32)) &&& 252645135) (fun v3 => lt (v3 + ((v3.toUInt32 >>> ((8 : Int32).toUInt32 &&& Int32.toUInt32 31)).toInt32)) (fun v4 => lt (v4 + ((v4.toUInt32 >>> ((16 : Int32).toUInt32 &&& Int32.toUInt32 31)).toInt32)) (fun v5 => some (v5 &&& 63, κ))))))
set_option maxHeartbeats 4000000 in
set_option maxRecDepth 100000 in
theorem c_Integer_bitCount_ok (l : Launch) (D : va_G) (θ : Tc) (N : Nat) (a1 : Int32) (κ : Cz) (ρ : Int32 × Cz) (h : p_Integer_bitCount N a1 κ = some ρ) : CEi l D θ y_Integer_bitCount c_Integer_bitCount 1 (some .int) 1 0 0 [.int a1] κ ρ := by
  intro sz
  refine e_met l [.int a1] (by decide +kernel) (Nat.le_of_ble_eq_true rfl) ?_
  intro p e s m args below meth c K hN hr hlk hnm hs
  generalize va_A (wE θ κ) sz = A at K ⊢
  have K : KE p s m args c c_Integer_bitCount 1 "java/lang/Integer" y_Integer_bitCount (some .int) D θ A := K
  show JE p l e (rmA 1 0 0) s m args below meth c D θ A 1 0 0 (QEi below args s D θ A 0 0 ρ) κ [(0, .int a1)] [] 0
  unfold p_Integer_bitCount at h
  refine j_iload_n K 0 d_Integer_bitCount_0 rfl rfl ?_
  refine j_iload_n K 0 d_Integer_bitCount_1 rfl rfl ?_
  refine j_iconst (v := 1) K d_Integer_bitCount_2 (by decide) ?_
  refine j_iushr K d_Integer_bitCount_3 ?_
  refine j_ldcw (v := 1431655765) K (List.mem_cons_of_mem _ ek_Integer_265) d_Integer_bitCount_4 ?_
  refine j_iand K d_Integer_bitCount_7 ?_
  refine j_isub K d_Integer_bitCount_8 ?_
  obtain ⟨v1, e1, h⟩ := lt_e h
  refine j_eqi e1 ?_
  refine j_istore_n (lv' := [(0, .int v1)]) K d_Integer_bitCount_9 rfl (by decide) rfl ?_
  refine j_iload_n K 0 d_Integer_bitCount_10 rfl rfl ?_
  refine j_ldcw (v := 858993459) K (List.mem_cons_of_mem _ ek_Integer_266) d_Integer_bitCount_11 ?_
  refine j_iand K d_Integer_bitCount_14 ?_
  refine j_iload_n K 0 d_Integer_bitCount_15 rfl rfl ?_
  refine j_iconst (v := 2) K d_Integer_bitCount_16 (by decide) ?_
  refine j_iushr K d_Integer_bitCount_17 ?_
  refine j_ldcw (v := 858993459) K (List.mem_cons_of_mem _ ek_Integer_266) d_Integer_bitCount_18 ?_
  refine j_iand K d_Integer_bitCount_21 ?_
  refine j_iadd K d_Integer_bitCount_22 ?_
  obtain ⟨v2, e2, h⟩ := lt_e h
  refine j_eqi e2 ?_
  refine j_istore_n (lv' := [(0, .int v2)]) K d_Integer_bitCount_23 rfl (by decide) rfl ?_
  refine j_iload_n K 0 d_Integer_bitCount_24 rfl rfl ?_
  refine j_iload_n K 0 d_Integer_bitCount_25 rfl rfl ?_
  refine j_iconst (v := 4) K d_Integer_bitCount_26 (by decide) ?_
  refine j_iushr K d_Integer_bitCount_27 ?_
  refine j_iadd K d_Integer_bitCount_28 ?_
  refine j_ldcw (v := 252645135) K (List.mem_cons_of_mem _ ek_Integer_267) d_Integer_bitCount_29 ?_
  refine j_iand K d_Integer_bitCount_32 ?_
  obtain ⟨v3, e3, h⟩ := lt_e h
  refine j_eqi e3 ?_
  refine j_istore_n (lv' := [(0, .int v3)]) K d_Integer_bitCount_33 rfl (by decide) rfl ?_
  refine j_iload_n K 0 d_Integer_bitCount_34 rfl rfl ?_
  refine j_iload_n K 0 d_Integer_bitCount_35 rfl rfl ?_
  refine j_bipush (v := 8) K d_Integer_bitCount_36 (by decide) ?_
  refine j_iushr K d_Integer_bitCount_38 ?_
  refine j_iadd K d_Integer_bitCount_39 ?_
  obtain ⟨v4, e4, h⟩ := lt_e h
  refine j_eqi e4 ?_
  refine j_istore_n (lv' := [(0, .int v4)]) K d_Integer_bitCount_40 rfl (by decide) rfl ?_
  refine j_iload_n K 0 d_Integer_bitCount_41 rfl rfl ?_
  refine j_iload_n K 0 d_Integer_bitCount_42 rfl rfl ?_
  refine j_bipush (v := 16) K d_Integer_bitCount_43 (by decide) ?_
  refine j_iushr K d_Integer_bitCount_45 ?_
  refine j_iadd K d_Integer_bitCount_46 ?_
  obtain ⟨v5, e5, h⟩ := lt_e h
  refine j_eqi e5 ?_
  refine j_istore_n (lv' := [(0, .int v5)]) K d_Integer_bitCount_47 rfl (by decide) rfl ?_
  refine j_iload_n K 0 d_Integer_bitCount_48 rfl rfl ?_
  refine j_bipush (v := 63) K d_Integer_bitCount_49 (by decide) ?_
  refine j_iand K d_Integer_bitCount_51 ?_
  exact eret_i K h hr hlk d_Integer_bitCount_52
def b_Integer_numberOfTrailingZeros_62 (N : Nat) (x0 : Int32) (x1 : Int32) (κ : Cz) : Option (Int32 × Cz) := if x0 ≤ 4 then some (x1 + ((x0.toUInt32 >>> ((1 : Int32).toUInt32 &&& Int32.toUInt32 31)).toInt32), κ) else lt (x1 + 2) (fun v2 => lt ((x0.toUInt32 >>> ((2 : Int32).toUInt32 &&& Int32.toUInt32 31)).toInt32) (fun v3 => some (v2 + ((v3.toUInt32 >>> ((1 : Int32).toUInt32 &&& Int32.toUInt32 31)).toInt32), κ)))
set_option maxHeartbeats 4000000 in
set_option maxRecDepth 100000 in
theorem t_Integer_numberOfTrailingZeros_62 {p : Program} {l : Launch} {e : Env} {s : State} {m : MethodId} {args : Array Value} {below : List Frame} {meth : Method} {c : Code} {D : va_G} {θ : Tc} {A : Nat → Prop} (K : KE p s m args c c_Integer_numberOfTrailingZeros 2 "java/lang/Integer" y_Integer_numberOfTrailingZeros (some .int) D θ A) (hN : NX s) (hr : meth.sig.returnType = (some .int)) (hlk : meth.locks = false) (N : Nat) (ρ : Int32 × Cz) (x0 : Int32) (x1 : Int32) (κ : Cz) (h : b_Integer_numberOfTrailingZeros_62 N x0 x1 κ = some ρ) : JE p l e (rmA 1 0 0) s m args below meth c D θ A 2 0 0 (QEi below args s D θ A 0 0 ρ) κ [(0, .int x0), (1, .int x1)] [] 62 := by
  unfold b_Integer_numberOfTrailingZeros_62 at h
  refine j_iload_n K 0 d_Integer_numberOfTrailingZeros_62 rfl rfl ?_
  refine j_iconst (v := 4) K d_Integer_numberOfTrailingZeros_63 (by decide) ?_
  refine j_icmp_le (tgt := 74) K d_Integer_numberOfTrailingZeros_64 (by decide) (fun q => ?_) (fun q => ?_)
  · have h := if_t h q
    refine j_iload_n K 1 d_Integer_numberOfTrailingZeros_74 rfl rfl ?_
    refine j_iload_n K 0 d_Integer_numberOfTrailingZeros_75 rfl rfl ?_
    refine j_iconst (v := 1) K d_Integer_numberOfTrailingZeros_76 (by decide) ?_
    refine j_iushr K d_Integer_numberOfTrailingZeros_77 ?_
    refine j_iadd K d_Integer_numberOfTrailingZeros_78 ?_
    exact eret_i K h hr hlk d_Integer_numberOfTrailingZeros_79
  · have h := if_f h q
    obtain ⟨v2, e2, h⟩ := lt_e h
    refine j_iinc (k := 1) (v := v2) (lv' := [(1, .int v2), (0, .int x0)]) K d_Integer_numberOfTrailingZeros_67 rfl (by rw [e2]; rfl) (by decide) rfl ?_
    refine j_iload_n K 1 d_Integer_numberOfTrailingZeros_70 rfl rfl ?_
    refine j_iconst (v := 2) K d_Integer_numberOfTrailingZeros_71 (by decide) ?_
    refine j_iushr K d_Integer_numberOfTrailingZeros_72 ?_
    obtain ⟨v3, e3, h⟩ := lt_e h
    refine j_eqi e3 ?_
    refine j_istore_n (lv' := [(0, .int v3), (1, .int v2)]) K d_Integer_numberOfTrailingZeros_73 rfl (by decide) rfl ?_
    refine j_iload_n K 1 d_Integer_numberOfTrailingZeros_74 rfl rfl ?_
    refine j_iload_n K 0 d_Integer_numberOfTrailingZeros_75 rfl rfl ?_
    refine j_iconst (v := 1) K d_Integer_numberOfTrailingZeros_76 (by decide) ?_
    refine j_iushr K d_Integer_numberOfTrailingZeros_77 ?_
    refine j_iadd K d_Integer_numberOfTrailingZeros_78 ?_
    exact eret_i K h hr hlk d_Integer_numberOfTrailingZeros_79
def b_Integer_numberOfTrailingZeros_49 (N : Nat) (x0 : Int32) (x1 : Int32) (κ : Cz) : Option (Int32 × Cz) := if x0 ≤ 16 then b_Integer_numberOfTrailingZeros_62 N x0 x1 κ else lt (x1 + 4) (fun v4 => lt ((x0.toUInt32 >>> ((4 : Int32).toUInt32 &&& Int32.toUInt32 31)).toInt32) (fun v5 => b_Integer_numberOfTrailingZeros_62 N v5 v4 κ))
set_option maxHeartbeats 4000000 in
set_option maxRecDepth 100000 in
theorem t_Integer_numberOfTrailingZeros_49 {p : Program} {l : Launch} {e : Env} {s : State} {m : MethodId} {args : Array Value} {below : List Frame} {meth : Method} {c : Code} {D : va_G} {θ : Tc} {A : Nat → Prop} (K : KE p s m args c c_Integer_numberOfTrailingZeros 2 "java/lang/Integer" y_Integer_numberOfTrailingZeros (some .int) D θ A) (hN : NX s) (hr : meth.sig.returnType = (some .int)) (hlk : meth.locks = false) (N : Nat) (ρ : Int32 × Cz) (x0 : Int32) (x1 : Int32) (κ : Cz) (h : b_Integer_numberOfTrailingZeros_49 N x0 x1 κ = some ρ) : JE p l e (rmA 1 0 0) s m args below meth c D θ A 2 0 0 (QEi below args s D θ A 0 0 ρ) κ [(0, .int x0), (1, .int x1)] [] 49 := by
  unfold b_Integer_numberOfTrailingZeros_49 at h
  refine j_iload_n K 0 d_Integer_numberOfTrailingZeros_49 rfl rfl ?_
  refine j_bipush (v := 16) K d_Integer_numberOfTrailingZeros_50 (by decide) ?_
  refine j_icmp_le (tgt := 62) K d_Integer_numberOfTrailingZeros_52 (by decide) (fun q => ?_) (fun q => ?_)
  · have h := if_t h q
    exact t_Integer_numberOfTrailingZeros_62 K hN hr hlk N ρ x0 x1 κ h
  · have h := if_f h q
    obtain ⟨v4, e4, h⟩ := lt_e h
    refine j_iinc (k := 1) (v := v4) (lv' := [(1, .int v4), (0, .int x0)]) K d_Integer_numberOfTrailingZeros_55 rfl (by rw [e4]; rfl) (by decide) rfl ?_
    refine j_iload_n K 1 d_Integer_numberOfTrailingZeros_58 rfl rfl ?_
    refine j_iconst (v := 4) K d_Integer_numberOfTrailingZeros_59 (by decide) ?_
    refine j_iushr K d_Integer_numberOfTrailingZeros_60 ?_
    obtain ⟨v5, e5, h⟩ := lt_e h
    refine j_eqi e5 ?_
    refine j_istore_n (lv' := [(0, .int v5), (1, .int v4)]) K d_Integer_numberOfTrailingZeros_61 rfl (by decide) rfl ?_
    exact t_Integer_numberOfTrailingZeros_62 K hN hr hlk N ρ v5 v4 κ h
def b_Integer_numberOfTrailingZeros_34 (N : Nat) (x0 : Int32) (x1 : Int32) (κ : Cz) : Option (Int32 × Cz) := if x0 ≤ 256 then b_Integer_numberOfTrailingZeros_49 N x0 x1 κ else lt (x1 + 8) (fun v6 => lt ((x0.toUInt32 >>> ((8 : Int32).toUInt32 &&& Int32.toUInt32 31)).toInt32) (fun v7 => b_Integer_numberOfTrailingZeros_49 N v7 v6 κ))
set_option maxHeartbeats 4000000 in
set_option maxRecDepth 100000 in
theorem t_Integer_numberOfTrailingZeros_34 {p : Program} {l : Launch} {e : Env} {s : State} {m : MethodId} {args : Array Value} {below : List Frame} {meth : Method} {c : Code} {D : va_G} {θ : Tc} {A : Nat → Prop} (K : KE p s m args c c_Integer_numberOfTrailingZeros 2 "java/lang/Integer" y_Integer_numberOfTrailingZeros (some .int) D θ A) (hN : NX s) (hr : meth.sig.returnType = (some .int)) (hlk : meth.locks = false) (N : Nat) (ρ : Int32 × Cz) (x0 : Int32) (x1 : Int32) (κ : Cz) (h : b_Integer_numberOfTrailingZeros_34 N x0 x1 κ = some ρ) : JE p l e (rmA 1 0 0) s m args below meth c D θ A 2 0 0 (QEi below args s D θ A 0 0 ρ) κ [(0, .int x0), (1, .int x1)] [] 34 := by
  unfold b_Integer_numberOfTrailingZeros_34 at h
  refine j_iload_n K 0 d_Integer_numberOfTrailingZeros_34 rfl rfl ?_
  refine j_sipush (v := 256) K d_Integer_numberOfTrailingZeros_35 (by decide) ?_
  refine j_icmp_le (tgt := 49) K d_Integer_numberOfTrailingZeros_38 (by decide) (fun q => ?_) (fun q => ?_)
  · have h := if_t h q
    exact t_Integer_numberOfTrailingZeros_49 K hN hr hlk N ρ x0 x1 κ h
  · have h := if_f h q
    obtain ⟨v6, e6, h⟩ := lt_e h
    refine j_iinc (k := 1) (v := v6) (lv' := [(1, .int v6), (0, .int x0)]) K d_Integer_numberOfTrailingZeros_41 rfl (by rw [e6]; rfl) (by decide) rfl ?_
    refine j_iload_n K 1 d_Integer_numberOfTrailingZeros_44 rfl rfl ?_
    refine j_bipush (v := 8) K d_Integer_numberOfTrailingZeros_45 (by decide) ?_
    refine j_iushr K d_Integer_numberOfTrailingZeros_47 ?_
    obtain ⟨v7, e7, h⟩ := lt_e h
    refine j_eqi e7 ?_
    refine j_istore_n (lv' := [(0, .int v7), (1, .int v6)]) K d_Integer_numberOfTrailingZeros_48 rfl (by decide) rfl ?_
    exact t_Integer_numberOfTrailingZeros_49 K hN hr hlk N ρ v7 v6 κ h
def p_Integer_numberOfTrailingZeros (N : Nat) (a1 : Int32) (κ : Cz) : Option (Int32 × Cz) := lt ((a1 ^^^ (-1)) &&& (a1 - 1)) (fun v1 => if 0 < v1 then if v1 ≤ 65536 then b_Integer_numberOfTrailingZeros_34 N v1 1 κ else lt (1 + 16) (fun v8 => lt ((v1.toUInt32 >>> ((16 : Int32).toUInt32 &&& Int32.toUInt32 31)).toInt32) (fun v9 => b_Integer_numberOfTrailingZeros_34 N v9 v8 κ)) else some (v1 &&& 32, κ))
set_option maxHeartbeats 4000000 in
set_option maxRecDepth 100000 in
theorem c_Integer_numberOfTrailingZeros_ok (l : Launch) (D : va_G) (θ : Tc) (N : Nat) (a1 : Int32) (κ : Cz) (ρ : Int32 × Cz) (h : p_Integer_numberOfTrailingZeros N a1 κ = some ρ) : CEi l D θ y_Integer_numberOfTrailingZeros c_Integer_numberOfTrailingZeros 2 (some .int) 1 0 0 [.int a1] κ ρ := by
  intro sz
  refine e_met l [.int a1] (by decide +kernel) (Nat.le_of_ble_eq_true rfl) ?_
  intro p e s m args below meth c K hN hr hlk hnm hs
  generalize va_A (wE θ κ) sz = A at K ⊢
  have K : KE p s m args c c_Integer_numberOfTrailingZeros 2 "java/lang/Integer" y_Integer_numberOfTrailingZeros (some .int) D θ A := K
  show JE p l e (rmA 1 0 0) s m args below meth c D θ A 2 0 0 (QEi below args s D θ A 0 0 ρ) κ [(0, .int a1)] [] 0
  unfold p_Integer_numberOfTrailingZeros at h
  refine j_iload_n K 0 d_Integer_numberOfTrailingZeros_0 rfl rfl ?_
  refine j_iconst (v := (-1)) K d_Integer_numberOfTrailingZeros_1 (by decide) ?_
  refine j_ixor K d_Integer_numberOfTrailingZeros_2 ?_
  refine j_iload_n K 0 d_Integer_numberOfTrailingZeros_3 rfl rfl ?_
  refine j_iconst (v := 1) K d_Integer_numberOfTrailingZeros_4 (by decide) ?_
  refine j_isub K d_Integer_numberOfTrailingZeros_5 ?_
  refine j_iand K d_Integer_numberOfTrailingZeros_6 ?_
  obtain ⟨v1, e1, h⟩ := lt_e h
  refine j_eqi e1 ?_
  refine j_istore_n (lv' := [(0, .int v1)]) K d_Integer_numberOfTrailingZeros_7 rfl (by decide) rfl ?_
  refine j_iload_n K 0 d_Integer_numberOfTrailingZeros_8 rfl rfl ?_
  refine j_if_gt (tgt := 17) K d_Integer_numberOfTrailingZeros_9 (by decide) (fun q => ?_) (fun q => ?_)
  · have h := if_t h q
    refine j_iconst (v := 1) K d_Integer_numberOfTrailingZeros_17 (by decide) ?_
    refine j_istore_n (lv' := [(1, .int 1), (0, .int v1)]) K d_Integer_numberOfTrailingZeros_18 rfl (by decide) rfl ?_
    refine j_iload_n K 1 d_Integer_numberOfTrailingZeros_19 rfl rfl ?_
    refine j_ldcw (v := 65536) K (List.mem_cons_of_mem _ ek_Integer_264) d_Integer_numberOfTrailingZeros_20 ?_
    refine j_icmp_le (tgt := 34) K d_Integer_numberOfTrailingZeros_23 (by decide) (fun q => ?_) (fun q => ?_)
    · have h := if_t h q
      refine j_sub [1, 0] rfl ?_
      exact t_Integer_numberOfTrailingZeros_34 K hN hr hlk N ρ v1 1 κ h
    · have h := if_f h q
      obtain ⟨v8, e8, h⟩ := lt_e h
      refine j_iinc (k := 0) (v := v8) (lv' := [(1, .int v8), (0, .int v1)]) K d_Integer_numberOfTrailingZeros_26 rfl (by rw [e8]; rfl) (by decide) rfl ?_
      refine j_iload_n K 1 d_Integer_numberOfTrailingZeros_29 rfl rfl ?_
      refine j_bipush (v := 16) K d_Integer_numberOfTrailingZeros_30 (by decide) ?_
      refine j_iushr K d_Integer_numberOfTrailingZeros_32 ?_
      obtain ⟨v9, e9, h⟩ := lt_e h
      refine j_eqi e9 ?_
      refine j_istore_n (lv' := [(0, .int v9), (1, .int v8)]) K d_Integer_numberOfTrailingZeros_33 rfl (by decide) rfl ?_
      exact t_Integer_numberOfTrailingZeros_34 K hN hr hlk N ρ v9 v8 κ h
  · have h := if_f h q
    refine j_iload_n K 0 d_Integer_numberOfTrailingZeros_12 rfl rfl ?_
    refine j_bipush (v := 32) K d_Integer_numberOfTrailingZeros_13 (by decide) ?_
    refine j_iand K d_Integer_numberOfTrailingZeros_15 ?_
    exact eret_i K h hr hlk d_Integer_numberOfTrailingZeros_16
def b_Arrays_fill_5 (N : Nat) : Nat → Nat → Int32 → Int32 → Int32 → Cz → Option (Cz)
  | 0, _, _, _, _, _ => none
  | n + 1, x0, x1, x2, x3, κ => if x3 ≤ x2 then some κ else ck (isK κ x0 20) (ck (inb x2 (ln κ x0)) (lt (sai x0 (upd (ai κ x0) x2.toNatClampNeg x1) κ) (fun κ5 => lt (x2 + 1) (fun v6 => b_Arrays_fill_5 N n x0 x1 v6 x3 κ5))))
set_option maxHeartbeats 4000000 in
set_option maxRecDepth 100000 in
theorem t_Arrays_fill_5 {p : Program} {l : Launch} {e : Env} {s : State} {m : MethodId} {args : Array Value} {below : List Frame} {meth : Method} {c : Code} {D : va_G} {θ : Tc} {A : Nat → Prop} (K : KE p s m args c c_Arrays_fill 4 "java/util/Arrays" y_Arrays_fill none D θ A) (hN : NX s) (hr : meth.sig.returnType = none) (hlk : meth.locks = false) (N : Nat) (ρ : Cz) : ∀ (n : Nat) (x0 : Nat) (x1 : Int32) (x2 : Int32) (x3 : Int32) (κ : Cz), b_Arrays_fill_5 N n x0 x1 x2 x3 κ = some ρ → JE p l e (rmA 1 0 0) s m args below meth c D θ A 4 0 0 (QEv below args s D θ A 0 0 ρ) κ [(0, .ref x0), (1, .int x1), (2, .int x2), (3, .int x3)] [] 5 := by
  intro n
  induction n with
  | zero =>
    intro x0 x1 x2 x3 κ h
    exact absurd h (by simp [b_Arrays_fill_5])
  | succ n ih =>
    intro x0 x1 x2 x3 κ h
    rw [b_Arrays_fill_5] at h
    refine j_iload_n K 2 d_Arrays_fill_5 rfl rfl ?_
    refine j_iload_n K 3 d_Arrays_fill_6 rfl rfl ?_
    refine j_icmp_ge (tgt := 20) K d_Arrays_fill_7 (by decide) (fun q => ?_) (fun q => ?_)
    · have h := if_t h q
      exact eret_v K h hr hlk d_Arrays_fill_20
    · have h := if_f h q
      refine j_aload_n K 0 d_Arrays_fill_10 rfl rfl ?_
      refine j_iload_n K 2 d_Arrays_fill_11 rfl rfl ?_
      refine j_iload_n K 1 d_Arrays_fill_12 rfl rfl ?_
      obtain ⟨q3, h⟩ := ck_e h
      obtain ⟨q4, h⟩ := ck_e h
      obtain ⟨κ5, e5, h⟩ := lt_e h
      refine e_iast K q3 (inb_e q4) d_Arrays_fill_13 e5 ?_
      obtain ⟨v6, e6, h⟩ := lt_e h
      refine j_iinc (k := 2) (v := v6) (lv' := [(2, .int v6), (0, .ref x0), (1, .int x1), (3, .int x3)]) K d_Arrays_fill_14 rfl (by rw [e6]; rfl) (by decide) rfl ?_
      refine j_goto (tgt := 5) K d_Arrays_fill_17 (by decide) ?_
      refine j_sub [1, 2, 0, 3] rfl ?_
      exact ih x0 x1 v6 x3 κ5 h
def p_Arrays_fill (N : Nat) (a1 : Nat) (a2 : Int32) (κ : Cz) : Option (Cz) := ck (isK κ a1 20) (lt (nI (ln κ a1)) (fun v2 => b_Arrays_fill_5 N N a1 a2 0 v2 κ))
set_option maxHeartbeats 4000000 in
set_option maxRecDepth 100000 in
theorem c_Arrays_fill_ok (l : Launch) (D : va_G) (θ : Tc) (N : Nat) (a1 : Nat) (a2 : Int32) (κ : Cz) (ρ : Cz) (h : p_Arrays_fill N a1 a2 κ = some ρ) : CEv l D θ y_Arrays_fill c_Arrays_fill 4 none 1 0 0 [.ref a1, .int a2] κ ρ := by
  intro sz
  refine e_met l [.ref a1, .int a2] (by decide +kernel) (Nat.le_of_ble_eq_true rfl) ?_
  intro p e s m args below meth c K hN hr hlk hnm hs
  generalize va_A (wE θ κ) sz = A at K ⊢
  have K : KE p s m args c c_Arrays_fill 4 "java/util/Arrays" y_Arrays_fill none D θ A := K
  show JE p l e (rmA 1 0 0) s m args below meth c D θ A 4 0 0 (QEv below args s D θ A 0 0 ρ) κ [(0, .ref a1), (1, .int a2)] [] 0
  unfold p_Arrays_fill at h
  refine j_iconst (v := 0) K d_Arrays_fill_0 (by decide) ?_
  refine j_istore_n (lv' := [(2, .int 0), (0, .ref a1), (1, .int a2)]) K d_Arrays_fill_1 rfl (by decide) rfl ?_
  refine j_aload_n K 1 d_Arrays_fill_2 rfl rfl ?_
  obtain ⟨q1, h⟩ := ck_e h
  refine e_alen K q1 d_Arrays_fill_3 ?_
  obtain ⟨v2, e2, h⟩ := lt_e h
  refine j_eqi e2 ?_
  refine j_istore_n (lv' := [(3, .int v2), (2, .int 0), (0, .ref a1), (1, .int a2)]) K d_Arrays_fill_4 rfl (by decide) rfl ?_
  refine j_sub [2, 3, 1, 0] rfl ?_
  exact t_Arrays_fill_5 K hN hr hlk N ρ N a1 a2 0 v2 κ h
def p_Book_copyFrom (N : Nat) (this : Nat) (a1 : Nat) (κ : Cz) : Option (Cz) := ck (isK κ a1 0) (lt (fi κ a1 0) (fun v2 => ck (isK κ this 0) (ck (b01 v2) (lt (sfi this 0 v2 κ) (fun κ5 => lt (fi κ5 a1 1) (fun v6 => lt (sfi this 1 v6 κ5) (fun κ7 => lt (fi κ7 a1 2) (fun v8 => lt (sfi this 2 v8 κ7) (fun κ9 => lt (fi κ9 a1 3) (fun v10 => lt (sfi this 3 v10 κ9) (fun κ11 => bo (fr κ11 a1 4) (fun o12 => bo (fr κ11 this 4) (fun o13 => ck (isK κ11 o12 20) (ck (isK κ11 o13 20) (ck (decide ((0 : Int32).toNatClampNeg + (10 : Int32).toNatClampNeg ≤ ln κ11 o12)) (ck (decide ((0 : Int32).toNatClampNeg + (10 : Int32).toNatClampNeg ≤ ln κ11 o13)) (lt (sai o13 (va_cpy (ai κ11 o12) (ai κ11 o13) (0 : Int32).toNatClampNeg (0 : Int32).toNatClampNeg (10 : Int32).toNatClampNeg) κ11) (fun κ18 => bo (fr κ18 a1 5) (fun o19 => bo (fr κ18 this 5) (fun o20 => ck (isK κ18 o19 20) (ck (isK κ18 o20 20) (ck (decide ((0 : Int32).toNatClampNeg + (12 : Int32).toNatClampNeg ≤ ln κ18 o19)) (ck (decide ((0 : Int32).toNatClampNeg + (12 : Int32).toNatClampNeg ≤ ln κ18 o20)) (lt (sai o20 (va_cpy (ai κ18 o19) (ai κ18 o20) (0 : Int32).toNatClampNeg (0 : Int32).toNatClampNeg (12 : Int32).toNatClampNeg) κ18) (fun κ25 => bo (fr κ25 a1 6) (fun o26 => bo (fr κ25 this 6) (fun o27 => ck (isK κ25 o26 20) (ck (isK κ25 o27 20) (ck (decide ((0 : Int32).toNatClampNeg + (12 : Int32).toNatClampNeg ≤ ln κ25 o26)) (ck (decide ((0 : Int32).toNatClampNeg + (12 : Int32).toNatClampNeg ≤ ln κ25 o27)) (lt (sai o27 (va_cpy (ai κ25 o26) (ai κ25 o27) (0 : Int32).toNatClampNeg (0 : Int32).toNatClampNeg (12 : Int32).toNatClampNeg) κ25) (fun κ32 => bo (fr κ32 this 7) (fun o33 => bo (fr κ32 a1 7) (fun o34 => ck (isK κ32 o33 8) (bo (p_State_copyFrom N o33 o34 κ32) (fun κ35 => some κ35))))))))))))))))))))))))))))))))))))
set_option maxHeartbeats 4000000 in
set_option maxRecDepth 100000 in
theorem c_Book_copyFrom_ok (l : Launch) (D : va_G) (θ : Tc) (N : Nat) (this : Nat) (a1 : Nat) (κ : Cz) (ρ : Cz) (h : p_Book_copyFrom N this a1 κ = some ρ) : CEv l D θ y_Book_copyFrom c_Book_copyFrom 2 none 2 0 0 [.ref this, .ref a1] κ ρ := by
  intro sz
  refine e_met l [.ref this, .ref a1] (by decide +kernel) (Nat.le_of_ble_eq_true rfl) ?_
  intro p e s m args below meth c K hN hr hlk hnm hs
  generalize va_A (wE θ κ) sz = A at K ⊢
  have K : KE p s m args c c_Book_copyFrom 2 "ErrataRow$Book" y_Book_copyFrom none D θ A := K
  show JE p l e (rmA 2 0 0) s m args below meth c D θ A 2 0 0 (QEv below args s D θ A 0 0 ρ) κ [(0, .ref this), (1, .ref a1)] [] 0
  unfold p_Book_copyFrom at h
  refine j_aload_n K 0 d_Book_copyFrom_0 rfl rfl ?_
  refine j_aload_n K 1 d_Book_copyFrom_1 rfl rfl ?_
  obtain ⟨q1, h⟩ := ck_e h
  refine eg_Book_told K ef_Book_28 q1 d_Book_copyFrom_2 ?_
  obtain ⟨v2, e2, h⟩ := lt_e h
  refine j_eqi e2 ?_
  obtain ⟨q3, h⟩ := ck_e h
  obtain ⟨q4, h⟩ := ck_e h
  obtain ⟨κ5, e5, h⟩ := lt_e h
  refine ep_Book_told K q4 ef_Book_28 q3 d_Book_copyFrom_5 e5 ?_
  refine j_aload_n K 0 d_Book_copyFrom_8 rfl rfl ?_
  refine j_aload_n K 1 d_Book_copyFrom_9 rfl rfl ?_
  refine eg_Book_quarter K ef_Book_32 (isK_sfi e5 q1) d_Book_copyFrom_10 ?_
  obtain ⟨v6, e6, h⟩ := lt_e h
  refine j_eqi e6 ?_
  obtain ⟨κ7, e7, h⟩ := lt_e h
  refine ep_Book_quarter K ef_Book_32 (isK_sfi e5 q3) d_Book_copyFrom_13 e7 ?_
  refine j_aload_n K 0 d_Book_copyFrom_16 rfl rfl ?_
  refine j_aload_n K 1 d_Book_copyFrom_17 rfl rfl ?_
  refine eg_Book_letters K ef_Book_36 (isK_sfi e7 (isK_sfi e5 q1)) d_Book_copyFrom_18 ?_
  obtain ⟨v8, e8, h⟩ := lt_e h
  refine j_eqi e8 ?_
  obtain ⟨κ9, e9, h⟩ := lt_e h
  refine ep_Book_letters K ef_Book_36 (isK_sfi e7 (isK_sfi e5 q3)) d_Book_copyFrom_21 e9 ?_
  refine j_aload_n K 0 d_Book_copyFrom_24 rfl rfl ?_
  refine j_aload_n K 1 d_Book_copyFrom_25 rfl rfl ?_
  refine eg_Book_habits K ef_Book_39 (isK_sfi e9 (isK_sfi e7 (isK_sfi e5 q1))) d_Book_copyFrom_26 ?_
  obtain ⟨v10, e10, h⟩ := lt_e h
  refine j_eqi e10 ?_
  obtain ⟨κ11, e11, h⟩ := lt_e h
  refine ep_Book_habits K ef_Book_39 (isK_sfi e9 (isK_sfi e7 (isK_sfi e5 q3))) d_Book_copyFrom_29 e11 ?_
  refine j_aload_n K 1 d_Book_copyFrom_32 rfl rfl ?_
  refine eg_Book_meant K ef_Book_9 (isK_sfi e11 (isK_sfi e9 (isK_sfi e7 (isK_sfi e5 q1)))) d_Book_copyFrom_33 ?_
  obtain ⟨o12, e12, h⟩ := bo_e h
  refine j_eqq e12 ?_
  refine j_iconst (v := 0) K d_Book_copyFrom_36 (by decide) ?_
  refine j_aload_n K 0 d_Book_copyFrom_37 rfl rfl ?_
  refine eg_Book_meant K ef_Book_9 (isK_sfi e11 (isK_sfi e9 (isK_sfi e7 (isK_sfi e5 q3)))) d_Book_copyFrom_38 ?_
  obtain ⟨o13, e13, h⟩ := bo_e h
  refine j_eqq e13 ?_
  refine j_iconst (v := 0) K d_Book_copyFrom_41 (by decide) ?_
  refine j_bipush (v := 10) K d_Book_copyFrom_42 (by decide) ?_
  obtain ⟨q14, h⟩ := ck_e h
  obtain ⟨q15, h⟩ := ck_e h
  obtain ⟨q16, h⟩ := ck_e h
  obtain ⟨q17, h⟩ := ck_e h
  obtain ⟨κ18, e18, h⟩ := lt_e h
  refine e_copy K el_Book_42 en_copy es_copy ei_System q14 q15 (by decide) (by decide) (by decide) (of_decide_eq_true q16) (of_decide_eq_true q17) (by decide) (Nat.le_of_ble_eq_true rfl) d_Book_copyFrom_44 e18 ?_
  refine j_aload_n K 1 d_Book_copyFrom_47 rfl rfl ?_
  refine eg_Book_from K ef_Book_15 (isK_sai e18 (isK_sfi e11 (isK_sfi e9 (isK_sfi e7 (isK_sfi e5 q1))))) d_Book_copyFrom_48 ?_
  obtain ⟨o19, e19, h⟩ := bo_e h
  refine j_eqq e19 ?_
  refine j_iconst (v := 0) K d_Book_copyFrom_51 (by decide) ?_
  refine j_aload_n K 0 d_Book_copyFrom_52 rfl rfl ?_
  refine eg_Book_from K ef_Book_15 (isK_sai e18 (isK_sfi e11 (isK_sfi e9 (isK_sfi e7 (isK_sfi e5 q3))))) d_Book_copyFrom_53 ?_
  obtain ⟨o20, e20, h⟩ := bo_e h
  refine j_eqq e20 ?_
  refine j_iconst (v := 0) K d_Book_copyFrom_56 (by decide) ?_
  refine j_bipush (v := 12) K d_Book_copyFrom_57 (by decide) ?_
  obtain ⟨q21, h⟩ := ck_e h
  obtain ⟨q22, h⟩ := ck_e h
  obtain ⟨q23, h⟩ := ck_e h
  obtain ⟨q24, h⟩ := ck_e h
  obtain ⟨κ25, e25, h⟩ := lt_e h
  refine e_copy K el_Book_42 en_copy es_copy ei_System q21 q22 (by decide) (by decide) (by decide) (of_decide_eq_true q23) (of_decide_eq_true q24) (by decide) (Nat.le_of_ble_eq_true rfl) d_Book_copyFrom_59 e25 ?_
  refine j_aload_n K 1 d_Book_copyFrom_62 rfl rfl ?_
  refine eg_Book_to K ef_Book_18 (isK_sai e25 (isK_sai e18 (isK_sfi e11 (isK_sfi e9 (isK_sfi e7 (isK_sfi e5 q1)))))) d_Book_copyFrom_63 ?_
  obtain ⟨o26, e26, h⟩ := bo_e h
  refine j_eqq e26 ?_
  refine j_iconst (v := 0) K d_Book_copyFrom_66 (by decide) ?_
  refine j_aload_n K 0 d_Book_copyFrom_67 rfl rfl ?_
  refine eg_Book_to K ef_Book_18 (isK_sai e25 (isK_sai e18 (isK_sfi e11 (isK_sfi e9 (isK_sfi e7 (isK_sfi e5 q3)))))) d_Book_copyFrom_68 ?_
  obtain ⟨o27, e27, h⟩ := bo_e h
  refine j_eqq e27 ?_
  refine j_iconst (v := 0) K d_Book_copyFrom_71 (by decide) ?_
  refine j_bipush (v := 12) K d_Book_copyFrom_72 (by decide) ?_
  obtain ⟨q28, h⟩ := ck_e h
  obtain ⟨q29, h⟩ := ck_e h
  obtain ⟨q30, h⟩ := ck_e h
  obtain ⟨q31, h⟩ := ck_e h
  obtain ⟨κ32, e32, h⟩ := lt_e h
  refine e_copy K el_Book_42 en_copy es_copy ei_System q28 q29 (by decide) (by decide) (by decide) (of_decide_eq_true q30) (of_decide_eq_true q31) (by decide) (Nat.le_of_ble_eq_true rfl) d_Book_copyFrom_74 e32 ?_
  refine j_aload_n K 0 d_Book_copyFrom_77 rfl rfl ?_
  refine eg_Book_begin K ef_Book_24 (isK_sai e32 (isK_sai e25 (isK_sai e18 (isK_sfi e11 (isK_sfi e9 (isK_sfi e7 (isK_sfi e5 q3))))))) d_Book_copyFrom_78 ?_
  obtain ⟨o33, e33, h⟩ := bo_e h
  refine j_eqq e33 ?_
  refine j_aload_n K 1 d_Book_copyFrom_81 rfl rfl ?_
  refine eg_Book_begin K ef_Book_24 (isK_sai e32 (isK_sai e25 (isK_sai e18 (isK_sfi e11 (isK_sfi e9 (isK_sfi e7 (isK_sfi e5 q1))))))) d_Book_copyFrom_82 ?_
  obtain ⟨o34, e34, h⟩ := bo_e h
  refine j_eqq e34 ?_
  obtain ⟨q36, h⟩ := ck_e h
  obtain ⟨κ35, e35, h⟩ := bo_e h
  refine ecallV_v K hN (c_State_copyFrom_ok l D θ N o33 o34 κ32 _ e35) eG_Book_48 eh_State_copyFrom (by decide) (rmA_ok (by decide) (by decide)) rfl q36 (by decide) rfl (st := []) (Nat.le_of_ble_eq_true rfl) rfl d_Book_copyFrom_85 ⟨Nat.le_of_ble_eq_true rfl, Nat.le_of_ble_eq_true rfl⟩ ?_
  exact eret_v K h hr hlk d_Book_copyFrom_88
def p_BookReader_readNumber (N : Nat) (this : Nat) (a1 : Int32) (a2 : Int32) (a3 : Int32) (κ : Cz) : Option (Int32 × Cz) := ck (isK κ this 1) (bo (fr κ this 0) (fun o2 => ck (isK κ o2 9) (lt (fi κ o2 6) (fun v4 => bo (fr κ this 0) (fun o5 => ck (isK κ o5 9) (if (fi κ o5 5) = 2 then bo (fr κ this 0) (fun o24 => ck (isK κ o24 9) (bo (p_Tokens_fail N o24 1 κ) (fun κ25 => some ((-1), κ25)))) else bo (fr κ this 0) (fun o7 => ck (isK κ o7 9) (if (fi κ o7 5) = 1 then if v4 < a1 then bo (fr κ this 0) (fun o9 => ck (isK κ o9 9) (bo (p_Tokens_fail N o9 1 κ) (fun κ10 => some ((-1), κ10)))) else if a2 < v4 then bo (fr κ this 0) (fun o12 => ck (isK κ o12 9) (bo (p_Tokens_fail N o12 1 κ) (fun κ13 => some ((-1), κ13)))) else if v4 = a3 then bo (fr κ this 0) (fun o18 => ck (isK κ o18 9) (bo (p_Tokens_fail N o18 1 κ) (fun κ19 => some ((-1), κ19)))) else bo (fr κ this 0) (fun o15 => ck (isK κ o15 9) (bo (p_Tokens_goOn N o15 κ) (fun κ16 => some (v4, κ16)))) else bo (fr κ this 0) (fun o21 => ck (isK κ o21 9) (bo (p_Tokens_fail N o21 0 κ) (fun κ22 => some ((-1), κ22))))))))))))
set_option maxHeartbeats 4000000 in
set_option maxRecDepth 100000 in
theorem c_BookReader_readNumber_ok (l : Launch) (D : va_G) (θ : Tc) (N : Nat) (this : Nat) (a1 : Int32) (a2 : Int32) (a3 : Int32) (κ : Cz) (ρ : Int32 × Cz) (h : p_BookReader_readNumber N this a1 a2 a3 κ = some ρ) : CEi l D θ y_BookReader_readNumber c_BookReader_readNumber 5 (some .int) 2 0 0 [.ref this, .int a1, .int a2, .int a3] κ ρ := by
  intro sz
  refine e_met l [.ref this, .int a1, .int a2, .int a3] (by decide +kernel) (Nat.le_of_ble_eq_true rfl) ?_
  intro p e s m args below meth c K hN hr hlk hnm hs
  generalize va_A (wE θ κ) sz = A at K ⊢
  have K : KE p s m args c c_BookReader_readNumber 5 "ErrataRow$BookReader" y_BookReader_readNumber (some .int) D θ A := K
  show JE p l e (rmA 2 0 0) s m args below meth c D θ A 5 0 0 (QEi below args s D θ A 0 0 ρ) κ [(0, .ref this), (1, .int a1), (2, .int a2), (3, .int a3)] [] 0
  unfold p_BookReader_readNumber at h
  refine j_aload_n K 0 d_BookReader_readNumber_0 rfl rfl ?_
  obtain ⟨q1, h⟩ := ck_e h
  refine eg_BookReader_tokens K ef_BookReader_18 q1 d_BookReader_readNumber_1 ?_
  obtain ⟨o2, e2, h⟩ := bo_e h
  refine j_eqq e2 ?_
  obtain ⟨q3, h⟩ := ck_e h
  refine eg_Tokens_value K ef_BookReader_97 q3 d_BookReader_readNumber_4 ?_
  obtain ⟨v4, e4, h⟩ := lt_e h
  refine j_eqi e4 ?_
  refine j_istore (lv' := [(4, .int v4), (0, .ref this), (1, .int a1), (2, .int a2), (3, .int a3)]) K d_BookReader_readNumber_7 (by decide) rfl ?_
  refine j_aload_n K 1 d_BookReader_readNumber_9 rfl rfl ?_
  refine eg_BookReader_tokens K ef_BookReader_18 q1 d_BookReader_readNumber_10 ?_
  obtain ⟨o5, e5, h⟩ := bo_e h
  refine j_eqq e5 ?_
  obtain ⟨q6, h⟩ := ck_e h
  refine eg_Tokens_kind K ef_BookReader_29 q6 d_BookReader_readNumber_13 ?_
  refine j_iconst (v := 2) K d_BookReader_readNumber_16 (by decide) ?_
  refine j_icmp_ne (tgt := 31) K d_BookReader_readNumber_17 (by decide) (fun q => ?_) (fun q => ?_)
  · have h := if_f h q
    refine j_aload_n K 1 d_BookReader_readNumber_31 rfl rfl ?_
    refine eg_BookReader_tokens K ef_BookReader_18 q1 d_BookReader_readNumber_32 ?_
    obtain ⟨o7, e7, h⟩ := bo_e h
    refine j_eqq e7 ?_
    obtain ⟨q8, h⟩ := ck_e h
    refine eg_Tokens_kind K ef_BookReader_29 q8 d_BookReader_readNumber_35 ?_
    refine j_iconst (v := 1) K d_BookReader_readNumber_38 (by decide) ?_
    refine j_icmp_eq (tgt := 53) K d_BookReader_readNumber_39 (by decide) (fun q => ?_) (fun q => ?_)
    · have h := if_t h q
      refine j_iload K 0 d_BookReader_readNumber_53 rfl ?_
      refine j_iload_n K 2 d_BookReader_readNumber_55 rfl rfl ?_
      refine j_icmp_lt (tgt := 71) K d_BookReader_readNumber_56 (by decide) (fun q => ?_) (fun q => ?_)
      · have h := if_t h q
        refine j_aload_n K 1 d_BookReader_readNumber_71 rfl rfl ?_
        refine eg_BookReader_tokens K ef_BookReader_18 q1 d_BookReader_readNumber_72 ?_
        obtain ⟨o9, e9, h⟩ := bo_e h
        refine j_eqq e9 ?_
        refine j_iconst (v := 1) K d_BookReader_readNumber_75 (by decide) ?_
        obtain ⟨q11, h⟩ := ck_e h
        obtain ⟨κ10, e10, h⟩ := bo_e h
        refine ecallV_v K hN (c_Tokens_fail_ok l D θ N o9 1 κ _ e10) eG_BookReader_48 eh_Tokens_fail (by decide) (rmA_ok (by decide) (by decide)) rfl q11 (by decide) rfl (st := []) (Nat.le_of_ble_eq_true rfl) rfl d_BookReader_readNumber_76 ⟨Nat.le_of_ble_eq_true rfl, Nat.le_of_ble_eq_true rfl⟩ ?_
        refine j_goto (tgt := 92) K d_BookReader_readNumber_79 (by decide) ?_
        refine j_iconst (v := (-1)) K d_BookReader_readNumber_92 (by decide) ?_
        exact eret_i K h hr hlk d_BookReader_readNumber_93
      · have h := if_f h q
        refine j_iload K 0 d_BookReader_readNumber_59 rfl ?_
        refine j_iload_n K 3 d_BookReader_readNumber_61 rfl rfl ?_
        refine j_icmp_gt (tgt := 71) K d_BookReader_readNumber_62 (by decide) (fun q => ?_) (fun q => ?_)
        · have h := if_t h q
          refine j_aload_n K 1 d_BookReader_readNumber_71 rfl rfl ?_
          refine eg_BookReader_tokens K ef_BookReader_18 q1 d_BookReader_readNumber_72 ?_
          obtain ⟨o12, e12, h⟩ := bo_e h
          refine j_eqq e12 ?_
          refine j_iconst (v := 1) K d_BookReader_readNumber_75 (by decide) ?_
          obtain ⟨q14, h⟩ := ck_e h
          obtain ⟨κ13, e13, h⟩ := bo_e h
          refine ecallV_v K hN (c_Tokens_fail_ok l D θ N o12 1 κ _ e13) eG_BookReader_48 eh_Tokens_fail (by decide) (rmA_ok (by decide) (by decide)) rfl q14 (by decide) rfl (st := []) (Nat.le_of_ble_eq_true rfl) rfl d_BookReader_readNumber_76 ⟨Nat.le_of_ble_eq_true rfl, Nat.le_of_ble_eq_true rfl⟩ ?_
          refine j_goto (tgt := 92) K d_BookReader_readNumber_79 (by decide) ?_
          refine j_iconst (v := (-1)) K d_BookReader_readNumber_92 (by decide) ?_
          exact eret_i K h hr hlk d_BookReader_readNumber_93
        · have h := if_f h q
          refine j_iload K 0 d_BookReader_readNumber_65 rfl ?_
          refine j_iload_n K 4 d_BookReader_readNumber_67 rfl rfl ?_
          refine j_icmp_ne (tgt := 82) K d_BookReader_readNumber_68 (by decide) (fun q => ?_) (fun q => ?_)
          · have h := if_f h q
            refine j_aload_n K 1 d_BookReader_readNumber_82 rfl rfl ?_
            refine eg_BookReader_tokens K ef_BookReader_18 q1 d_BookReader_readNumber_83 ?_
            obtain ⟨o15, e15, h⟩ := bo_e h
            refine j_eqq e15 ?_
            obtain ⟨q17, h⟩ := ck_e h
            obtain ⟨κ16, e16, h⟩ := bo_e h
            refine ecallV_v K hN (c_Tokens_goOn_ok l D θ N o15 κ _ e16) eG_BookReader_57 eh_Tokens_goOn (by decide) (rmA_ok (by decide) (by decide)) rfl q17 (by decide) rfl (st := []) (Nat.le_of_ble_eq_true rfl) rfl d_BookReader_readNumber_86 ⟨Nat.le_of_ble_eq_true rfl, Nat.le_of_ble_eq_true rfl⟩ ?_
            refine j_iload K 0 d_BookReader_readNumber_89 rfl ?_
            exact eret_i K h hr hlk d_BookReader_readNumber_91
          · have h := if_t h q
            refine j_aload_n K 1 d_BookReader_readNumber_71 rfl rfl ?_
            refine eg_BookReader_tokens K ef_BookReader_18 q1 d_BookReader_readNumber_72 ?_
            obtain ⟨o18, e18, h⟩ := bo_e h
            refine j_eqq e18 ?_
            refine j_iconst (v := 1) K d_BookReader_readNumber_75 (by decide) ?_
            obtain ⟨q20, h⟩ := ck_e h
            obtain ⟨κ19, e19, h⟩ := bo_e h
            refine ecallV_v K hN (c_Tokens_fail_ok l D θ N o18 1 κ _ e19) eG_BookReader_48 eh_Tokens_fail (by decide) (rmA_ok (by decide) (by decide)) rfl q20 (by decide) rfl (st := []) (Nat.le_of_ble_eq_true rfl) rfl d_BookReader_readNumber_76 ⟨Nat.le_of_ble_eq_true rfl, Nat.le_of_ble_eq_true rfl⟩ ?_
            refine j_goto (tgt := 92) K d_BookReader_readNumber_79 (by decide) ?_
            refine j_iconst (v := (-1)) K d_BookReader_readNumber_92 (by decide) ?_
            exact eret_i K h hr hlk d_BookReader_readNumber_93
    · have h := if_f h q
      refine j_aload_n K 1 d_BookReader_readNumber_42 rfl rfl ?_
      refine eg_BookReader_tokens K ef_BookReader_18 q1 d_BookReader_readNumber_43 ?_
      obtain ⟨o21, e21, h⟩ := bo_e h
      refine j_eqq e21 ?_
      refine j_iconst (v := 0) K d_BookReader_readNumber_46 (by decide) ?_
      obtain ⟨q23, h⟩ := ck_e h
      obtain ⟨κ22, e22, h⟩ := bo_e h
      refine ecallV_v K hN (c_Tokens_fail_ok l D θ N o21 0 κ _ e22) eG_BookReader_48 eh_Tokens_fail (by decide) (rmA_ok (by decide) (by decide)) rfl q23 (by decide) rfl (st := []) (Nat.le_of_ble_eq_true rfl) rfl d_BookReader_readNumber_47 ⟨Nat.le_of_ble_eq_true rfl, Nat.le_of_ble_eq_true rfl⟩ ?_
      refine j_goto (tgt := 92) K d_BookReader_readNumber_50 (by decide) ?_
      refine j_iconst (v := (-1)) K d_BookReader_readNumber_92 (by decide) ?_
      exact eret_i K h hr hlk d_BookReader_readNumber_93
  · have h := if_t h q
    refine j_aload_n K 1 d_BookReader_readNumber_20 rfl rfl ?_
    refine eg_BookReader_tokens K ef_BookReader_18 q1 d_BookReader_readNumber_21 ?_
    obtain ⟨o24, e24, h⟩ := bo_e h
    refine j_eqq e24 ?_
    refine j_iconst (v := 1) K d_BookReader_readNumber_24 (by decide) ?_
    obtain ⟨q26, h⟩ := ck_e h
    obtain ⟨κ25, e25, h⟩ := bo_e h
    refine ecallV_v K hN (c_Tokens_fail_ok l D θ N o24 1 κ _ e25) eG_BookReader_48 eh_Tokens_fail (by decide) (rmA_ok (by decide) (by decide)) rfl q26 (by decide) rfl (st := []) (Nat.le_of_ble_eq_true rfl) rfl d_BookReader_readNumber_25 ⟨Nat.le_of_ble_eq_true rfl, Nat.le_of_ble_eq_true rfl⟩ ?_
    refine j_goto (tgt := 92) K d_BookReader_readNumber_28 (by decide) ?_
    refine j_iconst (v := (-1)) K d_BookReader_readNumber_92 (by decide) ?_
    exact eret_i K h hr hlk d_BookReader_readNumber_93
def p_History_takeBack (N : Nat) (this : Nat) (a1 : Nat) (κ : Cz) : Option (Int32 × Cz) := ck (isK κ this 2) (if (fi κ this 0) = 0 then some (0, κ) else lt ((((fi κ this 1) + 20) - 1) - (((fi κ this 1) + 20) - 1) / 20 * 20) (fun v2 => lt (sfi this 1 v2 κ) (fun κ3 => lt ((fi κ3 this 0) - 1) (fun v4 => lt (sfi this 0 v4 κ3) (fun κ5 => bo (fr κ5 this 2) (fun o6 => lt (fi κ5 this 1) (fun v7 => ck (isK κ5 o6 23) (ck (inb v7 (ln κ5 o6)) (oc (aq κ5 o6 v7.toNatClampNeg) (some (1, κ5)) (fun o10 => ck (isK κ5 a1 8) (bo (p_State_copyFrom N a1 o10 κ5) (fun κ11 => some (1, κ11)))))))))))))
set_option maxHeartbeats 4000000 in
set_option maxRecDepth 100000 in
theorem c_History_takeBack_ok (l : Launch) (D : va_G) (θ : Tc) (N : Nat) (this : Nat) (a1 : Nat) (κ : Cz) (ρ : Int32 × Cz) (h : p_History_takeBack N this a1 κ = some ρ) : CEi l D θ y_History_takeBack c_History_takeBack 3 (some .boolean) 2 0 0 [.ref this, .ref a1] κ ρ := by
  intro sz
  refine e_met l [.ref this, .ref a1] (by decide +kernel) (Nat.le_of_ble_eq_true rfl) ?_
  intro p e s m args below meth c K hN hr hlk hnm hs
  generalize va_A (wE θ κ) sz = A at K ⊢
  have K : KE p s m args c c_History_takeBack 3 "ErrataRow$History" y_History_takeBack (some .boolean) D θ A := K
  show JE p l e (rmA 2 0 0) s m args below meth c D θ A 3 0 0 (QEi below args s D θ A 0 0 ρ) κ [(0, .ref this), (1, .ref a1)] [] 0
  unfold p_History_takeBack at h
  refine j_aload_n K 0 d_History_takeBack_0 rfl rfl ?_
  obtain ⟨q1, h⟩ := ck_e h
  refine eg_History_size K ef_History_26 q1 d_History_takeBack_1 ?_
  refine j_if_ne (tgt := 9) K d_History_takeBack_4 (by decide) (fun q => ?_) (fun q => ?_)
  · have h := if_f h q
    refine j_aload_n K 0 d_History_takeBack_9 rfl rfl ?_
    refine j_aload_n K 0 d_History_takeBack_10 rfl rfl ?_
    refine eg_History_next K ef_History_17 q1 d_History_takeBack_11 ?_
    refine j_bipush (v := 20) K d_History_takeBack_14 (by decide) ?_
    refine j_iadd K d_History_takeBack_16 ?_
    refine j_iconst (v := 1) K d_History_takeBack_17 (by decide) ?_
    refine j_isub K d_History_takeBack_18 ?_
    refine j_bipush (v := 20) K d_History_takeBack_19 (by decide) ?_
    refine j_irem K d_History_takeBack_21 (by decide) ?_
    obtain ⟨v2, e2, h⟩ := lt_e h
    refine j_eqi e2 ?_
    obtain ⟨κ3, e3, h⟩ := lt_e h
    refine ep_History_next K ef_History_17 q1 d_History_takeBack_22 e3 ?_
    refine j_aload_n K 0 d_History_takeBack_25 rfl rfl ?_
    refine j_dup K d_History_takeBack_26 rfl ?_
    refine eg_History_size K ef_History_26 (isK_sfi e3 q1) d_History_takeBack_27 ?_
    refine j_iconst (v := 1) K d_History_takeBack_30 (by decide) ?_
    refine j_isub K d_History_takeBack_31 ?_
    obtain ⟨v4, e4, h⟩ := lt_e h
    refine j_eqi e4 ?_
    obtain ⟨κ5, e5, h⟩ := lt_e h
    refine ep_History_size K ef_History_26 (isK_sfi e3 q1) d_History_takeBack_32 e5 ?_
    refine j_aload_n K 0 d_History_takeBack_35 rfl rfl ?_
    refine eg_History_states K ef_History_11 (isK_sfi e5 (isK_sfi e3 q1)) d_History_takeBack_36 ?_
    obtain ⟨o6, e6, h⟩ := bo_e h
    refine j_eqq e6 ?_
    refine j_aload_n K 0 d_History_takeBack_39 rfl rfl ?_
    refine eg_History_next K ef_History_17 (isK_sfi e5 (isK_sfi e3 q1)) d_History_takeBack_40 ?_
    obtain ⟨v7, e7, h⟩ := lt_e h
    refine j_eqi e7 ?_
    obtain ⟨q8, h⟩ := ck_e h
    obtain ⟨q9, h⟩ := ck_e h
    refine e_ald_State K q8 (inb_e q9) d_History_takeBack_43 ?_
    rcases oc_e h with ⟨e10, h⟩ | ⟨o10, e10, h⟩
    · refine j_eqn e10 ?_
      refine e_astore_nN (lv' := [(2, .null), (0, .ref this), (1, .ref a1)]) K d_History_takeBack_44 rfl (by decide) rfl ?_
      refine e_aload_nN K 0 d_History_takeBack_45 rfl rfl ?_
      refine e_ifnullN (tgt := 54) K d_History_takeBack_46 (by decide) ?_
      refine j_iconst (v := 1) K d_History_takeBack_54 (by decide) ?_
      exact eret_z K h rfl hr hlk d_History_takeBack_55
    · refine j_eqq e10 ?_
      refine j_astore_n (lv' := [(2, .ref o10), (0, .ref this), (1, .ref a1)]) K d_History_takeBack_44 rfl (by decide) rfl ?_
      refine j_aload_n K 0 d_History_takeBack_45 rfl rfl ?_
      refine e_ifnull K d_History_takeBack_46 ?_
      refine j_aload_n K 2 d_History_takeBack_49 rfl rfl ?_
      refine j_aload_n K 0 d_History_takeBack_50 rfl rfl ?_
      obtain ⟨q12, h⟩ := ck_e h
      obtain ⟨κ11, e11, h⟩ := bo_e h
      refine ecallV_v K hN (c_State_copyFrom_ok l D θ N a1 o10 κ5 _ e11) eG_History_22 eh_State_copyFrom (by decide) (rmA_ok (by decide) (by decide)) rfl q12 (by decide) rfl (st := []) (Nat.le_of_ble_eq_true rfl) rfl d_History_takeBack_51 ⟨Nat.le_of_ble_eq_true rfl, Nat.le_of_ble_eq_true rfl⟩ ?_
      refine j_iconst (v := 1) K d_History_takeBack_54 (by decide) ?_
      exact eret_z K h rfl hr hlk d_History_takeBack_55
  · have h := if_t h q
    refine j_iconst (v := 0) K d_History_takeBack_7 (by decide) ?_
    exact eret_z K h rfl hr hlk d_History_takeBack_8
def p_Press_howManyWrong (N : Nat) (this : Nat) (a1 : Nat) (κ : Cz) : Option (Int32 × Cz) := ck (isK κ this 4) (bd (p_Press_wrongOf N this a1 κ) (fun r1 κ1 => bd (p_Integer_bitCount N r1 κ1) (fun r3 κ3 => some (r3, κ3))))
set_option maxHeartbeats 4000000 in
set_option maxRecDepth 100000 in
theorem c_Press_howManyWrong_ok (l : Launch) (D : va_G) (θ : Tc) (N : Nat) (this : Nat) (a1 : Nat) (κ : Cz) (ρ : Int32 × Cz) (h : p_Press_howManyWrong N this a1 κ = some ρ) : CEi l D θ y_Press_howManyWrong c_Press_howManyWrong 2 (some .int) 2 0 0 [.ref this, .ref a1] κ ρ := by
  intro sz
  refine e_met l [.ref this, .ref a1] (by decide +kernel) (Nat.le_of_ble_eq_true rfl) ?_
  intro p e s m args below meth c K hN hr hlk hnm hs
  generalize va_A (wE θ κ) sz = A at K ⊢
  have K : KE p s m args c c_Press_howManyWrong 2 "ErrataRow$Press" y_Press_howManyWrong (some .int) D θ A := K
  show JE p l e (rmA 2 0 0) s m args below meth c D θ A 2 0 0 (QEi below args s D θ A 0 0 ρ) κ [(0, .ref this), (1, .ref a1)] [] 0
  unfold p_Press_howManyWrong at h
  refine j_aload_n K 0 d_Press_howManyWrong_0 rfl rfl ?_
  refine j_aload_n K 1 d_Press_howManyWrong_1 rfl rfl ?_
  obtain ⟨q2, h⟩ := ck_e h
  obtain ⟨r1, κ1, e1, h⟩ := bd_e h
  refine ecallV_i K hN (c_Press_wrongOf_ok l D θ N this a1 κ _ e1) eG_Press_39 eh_Press_wrongOf (by decide) (rmA_ok (by decide) (by decide)) rfl q2 (by decide) rfl (st := []) (Nat.le_of_ble_eq_true rfl) rfl d_Press_howManyWrong_2 ⟨Nat.le_of_ble_eq_true rfl, Nat.le_of_ble_eq_true rfl⟩ ?_
  obtain ⟨r3, κ3, e3, h⟩ := bd_e h
  refine ecallS_i K hN (c_Integer_bitCount_ok l D θ N r1 κ1 _ e3) eG_Press_43 eh_Integer_bitCount (by decide) (rmA_ok (by decide) (by decide)) rfl (st := []) (Nat.le_of_ble_eq_true rfl) rfl d_Press_howManyWrong_5 ⟨Nat.le_of_ble_eq_true rfl, Nat.le_of_ble_eq_true rfl⟩ ?_
  exact eret_i K h hr hlk d_Press_howManyWrong_8
def b_Press_looseOfWrong_5 (N : Nat) : Nat → Nat → Nat → Int32 → Int32 → Int32 → Cz → Option (Int32 × Cz)
  | 0, _, _, _, _, _, _ => none
  | n + 1, x0, x1, x2, x3, x4, κ => ck (isK κ x0 4) (bo (fr κ x0 0) (fun o2 => ck (isK κ o2 0) (if (fi κ o2 2) ≤ x4 then some (x3, κ) else bd (p_ErrataRow_hasBit N x2 x4 κ) (fun r4 κ4 => if r4 = 0 then lt (x4 + 1) (fun v5 => b_Press_looseOfWrong_5 N n x0 x1 x2 x3 v5 κ4) else ck (isK κ4 x1 8) (bo (fr κ4 x1 2) (fun o7 => ck (isK κ4 o7 20) (ck (inb x4 (ln κ4 o7)) (if ((ai κ4 o7 x4.toNatClampNeg) &&& x2) = 0 then lt (x3 ||| ((1 : Int32) <<< (x4 &&& 31))) (fun v11 => lt (x4 + 1) (fun v12 => b_Press_looseOfWrong_5 N n x0 x1 x2 v11 v12 κ4)) else lt (x4 + 1) (fun v10 => b_Press_looseOfWrong_5 N n x0 x1 x2 x3 v10 κ4)))))))))
set_option maxHeartbeats 4000000 in
set_option maxRecDepth 100000 in
theorem t_Press_looseOfWrong_5 {p : Program} {l : Launch} {e : Env} {s : State} {m : MethodId} {args : Array Value} {below : List Frame} {meth : Method} {c : Code} {D : va_G} {θ : Tc} {A : Nat → Prop} (K : KE p s m args c c_Press_looseOfWrong 5 "ErrataRow$Press" y_Press_looseOfWrong (some .int) D θ A) (hN : NX s) (hr : meth.sig.returnType = (some .int)) (hlk : meth.locks = false) (N : Nat) (ρ : Int32 × Cz) : ∀ (n : Nat) (x0 : Nat) (x1 : Nat) (x2 : Int32) (x3 : Int32) (x4 : Int32) (κ : Cz), b_Press_looseOfWrong_5 N n x0 x1 x2 x3 x4 κ = some ρ → JE p l e (rmA 2 0 0) s m args below meth c D θ A 5 0 0 (QEi below args s D θ A 0 0 ρ) κ [(0, .ref x0), (1, .ref x1), (2, .int x2), (3, .int x3), (4, .int x4)] [] 5 := by
  intro n
  induction n with
  | zero =>
    intro x0 x1 x2 x3 x4 κ h
    exact absurd h (by simp [b_Press_looseOfWrong_5])
  | succ n ih =>
    intro x0 x1 x2 x3 x4 κ h
    rw [b_Press_looseOfWrong_5] at h
    refine j_iload K 4 d_Press_looseOfWrong_5 rfl ?_
    refine j_aload_n K 0 d_Press_looseOfWrong_7 rfl rfl ?_
    obtain ⟨q1, h⟩ := ck_e h
    refine eg_Press_book K ef_Press_21 q1 d_Press_looseOfWrong_8 ?_
    obtain ⟨o2, e2, h⟩ := bo_e h
    refine j_eqq e2 ?_
    obtain ⟨q3, h⟩ := ck_e h
    refine eg_Book_letters K ef_Press_25 q3 d_Press_looseOfWrong_11 ?_
    refine j_icmp_ge (tgt := 51) K d_Press_looseOfWrong_14 (by decide) (fun q => ?_) (fun q => ?_)
    · have h := if_t h q
      refine j_iload_n K 3 d_Press_looseOfWrong_51 rfl rfl ?_
      exact eret_i K h hr hlk d_Press_looseOfWrong_52
    · have h := if_f h q
      refine j_iload_n K 2 d_Press_looseOfWrong_17 rfl rfl ?_
      refine j_iload K 4 d_Press_looseOfWrong_18 rfl ?_
      obtain ⟨r4, κ4, e4, h⟩ := bd_e h
      refine ecallN_i K hN (c_ErrataRow_hasBit_ok l D θ N x2 x4 κ _ e4) ec_ErrataRow_hasBit ei_ErrataRow es_ErrataRow_hasBit (NX_Press_53 hN) eh_ErrataRow_hasBit (by decide) (rmA_ok (by decide) (by decide)) rfl (st := []) (Nat.le_of_ble_eq_true rfl) rfl d_Press_looseOfWrong_20 ⟨Nat.le_of_ble_eq_true rfl, Nat.le_of_ble_eq_true rfl⟩ ?_
      refine j_if_eq (tgt := 45) K d_Press_looseOfWrong_23 (by decide) (fun q => ?_) (fun q => ?_)
      · have h := if_t h q
        obtain ⟨v5, e5, h⟩ := lt_e h
        refine j_iinc (k := 4) (v := v5) (lv' := [(4, .int v5), (0, .ref x0), (1, .ref x1), (2, .int x2), (3, .int x3)]) K d_Press_looseOfWrong_45 rfl (by rw [e5]; rfl) (by decide) rfl ?_
        refine j_goto (tgt := 5) K d_Press_looseOfWrong_48 (by decide) ?_
        refine j_sub [1, 2, 3, 4, 0] rfl ?_
        exact ih x0 x1 x2 x3 v5 κ4 h
      · have h := if_f h q
        refine j_aload_n K 1 d_Press_looseOfWrong_26 rfl rfl ?_
        obtain ⟨q6, h⟩ := ck_e h
        refine eg_State_hangs K ef_Press_57 q6 d_Press_looseOfWrong_27 ?_
        obtain ⟨o7, e7, h⟩ := bo_e h
        refine j_eqq e7 ?_
        refine j_iload K 4 d_Press_looseOfWrong_30 rfl ?_
        obtain ⟨q8, h⟩ := ck_e h
        obtain ⟨q9, h⟩ := ck_e h
        refine e_iald K q8 (inb_e q9) d_Press_looseOfWrong_32 ?_
        refine j_iload_n K 2 d_Press_looseOfWrong_33 rfl rfl ?_
        refine j_iand K d_Press_looseOfWrong_34 ?_
        refine j_if_ne (tgt := 45) K d_Press_looseOfWrong_35 (by decide) (fun q => ?_) (fun q => ?_)
        · have h := if_f h q
          obtain ⟨v10, e10, h⟩ := lt_e h
          refine j_iinc (k := 4) (v := v10) (lv' := [(4, .int v10), (0, .ref x0), (1, .ref x1), (2, .int x2), (3, .int x3)]) K d_Press_looseOfWrong_45 rfl (by rw [e10]; rfl) (by decide) rfl ?_
          refine j_goto (tgt := 5) K d_Press_looseOfWrong_48 (by decide) ?_
          refine j_sub [1, 2, 3, 4, 0] rfl ?_
          exact ih x0 x1 x2 x3 v10 κ4 h
        · have h := if_t h q
          refine j_iload_n K 3 d_Press_looseOfWrong_38 rfl rfl ?_
          refine j_iconst (v := 1) K d_Press_looseOfWrong_39 (by decide) ?_
          refine j_iload K 4 d_Press_looseOfWrong_40 rfl ?_
          refine j_ishl K d_Press_looseOfWrong_42 ?_
          refine j_ior K d_Press_looseOfWrong_43 ?_
          obtain ⟨v11, e11, h⟩ := lt_e h
          refine j_eqi e11 ?_
          refine j_istore_n (lv' := [(3, .int v11), (0, .ref x0), (1, .ref x1), (2, .int x2), (4, .int x4)]) K d_Press_looseOfWrong_44 rfl (by decide) rfl ?_
          obtain ⟨v12, e12, h⟩ := lt_e h
          refine j_iinc (k := 4) (v := v12) (lv' := [(4, .int v12), (3, .int v11), (0, .ref x0), (1, .ref x1), (2, .int x2)]) K d_Press_looseOfWrong_45 rfl (by rw [e12]; rfl) (by decide) rfl ?_
          refine j_goto (tgt := 5) K d_Press_looseOfWrong_48 (by decide) ?_
          refine j_sub [2, 3, 4, 1, 0] rfl ?_
          exact ih x0 x1 x2 v11 v12 κ4 h
def p_Press_looseOfWrong (N : Nat) (this : Nat) (a1 : Nat) (a2 : Int32) (κ : Cz) : Option (Int32 × Cz) := b_Press_looseOfWrong_5 N N this a1 a2 0 0 κ
set_option maxHeartbeats 4000000 in
set_option maxRecDepth 100000 in
theorem c_Press_looseOfWrong_ok (l : Launch) (D : va_G) (θ : Tc) (N : Nat) (this : Nat) (a1 : Nat) (a2 : Int32) (κ : Cz) (ρ : Int32 × Cz) (h : p_Press_looseOfWrong N this a1 a2 κ = some ρ) : CEi l D θ y_Press_looseOfWrong c_Press_looseOfWrong 5 (some .int) 2 0 0 [.ref this, .ref a1, .int a2] κ ρ := by
  intro sz
  refine e_met l [.ref this, .ref a1, .int a2] (by decide +kernel) (Nat.le_of_ble_eq_true rfl) ?_
  intro p e s m args below meth c K hN hr hlk hnm hs
  generalize va_A (wE θ κ) sz = A at K ⊢
  have K : KE p s m args c c_Press_looseOfWrong 5 "ErrataRow$Press" y_Press_looseOfWrong (some .int) D θ A := K
  show JE p l e (rmA 2 0 0) s m args below meth c D θ A 5 0 0 (QEi below args s D θ A 0 0 ρ) κ [(0, .ref this), (1, .ref a1), (2, .int a2)] [] 0
  unfold p_Press_looseOfWrong at h
  refine j_iconst (v := 0) K d_Press_looseOfWrong_0 (by decide) ?_
  refine j_istore_n (lv' := [(3, .int 0), (0, .ref this), (1, .ref a1), (2, .int a2)]) K d_Press_looseOfWrong_1 rfl (by decide) rfl ?_
  refine j_iconst (v := 0) K d_Press_looseOfWrong_2 (by decide) ?_
  refine j_istore (lv' := [(4, .int 0), (3, .int 0), (0, .ref this), (1, .ref a1), (2, .int a2)]) K d_Press_looseOfWrong_3 (by decide) rfl ?_
  refine j_sub [2, 3, 4, 1, 0] rfl ?_
  exact t_Press_looseOfWrong_5 K hN hr hlk N ρ N this a1 a2 0 0 κ h
def p_Press_tellWords (N : Nat) (this : Nat) (a1 : Nat) (a2 : Int32) (a3 : Int32) (κ : Cz) : Option (Cz) := ck (isK κ this 4) (bd (p_Press_habitOf N this a1 κ) (fun r1 κ1 => ck (isK κ1 this 4) (bo (fr κ1 this 1) (fun o4 => bd (p_Integer_bitCount N a3 κ1) (fun r5 κ5 => lt (r5.toInt64) (fun v6 => ck (isK κ5 o4 21) (ck (inb (4 : Int32) (ln κ5 o4)) (lt (sal o4 (vp_updL (al κ5 o4) (4 : Int32).toNatClampNeg v6) κ5) (fun κ9 => ck (isK κ9 this 4) (bo (fr κ9 this 1) (fun o11 => bd (p_Integer_bitCount N a2 κ9) (fun r12 κ12 => lt (r12.toInt64) (fun v13 => ck (isK κ12 o11 21) (ck (inb (5 : Int32) (ln κ12 o11)) (lt (sal o11 (vp_updL (al κ12 o11) (5 : Int32).toNatClampNeg v13) κ12) (fun κ16 => ck (isK κ16 this 4) (bo (fr κ16 this 1) (fun o18 => ck (isK κ16 a1 8) (lt ((fi κ16 a1 3).toInt64) (fun v20 => ck (isK κ16 o18 21) (ck (inb (7 : Int32) (ln κ16 o18)) (lt (sal o18 (vp_updL (al κ16 o18) (7 : Int32).toNatClampNeg v20) κ16) (fun κ23 => bo (fr κ23 this 1) (fun o24 => lt ((fi κ23 a1 4).toInt64) (fun v25 => ck (isK κ23 o24 21) (ck (inb (8 : Int32) (ln κ23 o24)) (lt (sal o24 (vp_updL (al κ23 o24) (8 : Int32).toNatClampNeg v25) κ23) (fun κ28 => bo (fr κ28 this 1) (fun o29 => bo (fr κ28 this 0) (fun o30 => ck (isK κ28 o30 0) (bo (fr κ28 o30 5) (fun o32 => ck (isK κ28 o32 20) (ck (inb r1 (ln κ28 o32)) (lt ((ai κ28 o32 r1.toNatClampNeg).toInt64) (fun v35 => ck (isK κ28 o29 21) (ck (inb (9 : Int32) (ln κ28 o29)) (lt (sal o29 (vp_updL (al κ28 o29) (9 : Int32).toNatClampNeg v35) κ28) (fun κ38 => bo (fr κ38 this 1) (fun o39 => bo (fr κ38 this 0) (fun o40 => ck (isK κ38 o40 0) (bo (fr κ38 o40 6) (fun o42 => ck (isK κ38 o42 20) (ck (inb r1 (ln κ38 o42)) (lt ((ai κ38 o42 r1.toNatClampNeg).toInt64) (fun v45 => ck (isK κ38 o39 21) (ck (inb (10 : Int32) (ln κ38 o39)) (lt (sal o39 (vp_updL (al κ38 o39) (10 : Int32).toNatClampNeg v45) κ38) (fun κ48 => bo (fr κ48 this 1) (fun o49 => lt ((fi κ48 a1 5).toInt64) (fun v50 => ck (isK κ48 o49 21) (ck (inb (11 : Int32) (ln κ48 o49)) (lt (sal o49 (vp_updL (al κ48 o49) (11 : Int32).toNatClampNeg v50) κ48) (fun κ53 => some κ53)))))))))))))))))))))))))))))))))))))))))))))))))))))
set_option maxHeartbeats 4000000 in
set_option maxRecDepth 100000 in
theorem c_Press_tellWords_ok (l : Launch) (D : va_G) (θ : Tc) (N : Nat) (this : Nat) (a1 : Nat) (a2 : Int32) (a3 : Int32) (κ : Cz) (ρ : Cz) (h : p_Press_tellWords N this a1 a2 a3 κ = some ρ) : CEv l D θ y_Press_tellWords c_Press_tellWords 5 none 2 0 0 [.ref this, .ref a1, .int a2, .int a3] κ ρ := by
  intro sz
  refine e_met l [.ref this, .ref a1, .int a2, .int a3] (by decide +kernel) (Nat.le_of_ble_eq_true rfl) ?_
  intro p e s m args below meth c K hN hr hlk hnm hs
  generalize va_A (wE θ κ) sz = A at K ⊢
  have K : KE p s m args c c_Press_tellWords 5 "ErrataRow$Press" y_Press_tellWords none D θ A := K
  show JE p l e (rmA 2 0 0) s m args below meth c D θ A 5 0 0 (QEv below args s D θ A 0 0 ρ) κ [(0, .ref this), (1, .ref a1), (2, .int a2), (3, .int a3)] [] 0
  unfold p_Press_tellWords at h
  refine j_aload_n K 0 d_Press_tellWords_0 rfl rfl ?_
  refine j_aload_n K 1 d_Press_tellWords_1 rfl rfl ?_
  obtain ⟨q2, h⟩ := ck_e h
  obtain ⟨r1, κ1, e1, h⟩ := bd_e h
  refine ecallV_i K hN (c_Press_habitOf_ok l D θ N this a1 κ _ e1) eG_Press_100 eh_Press_habitOf (by decide) (rmA_ok (by decide) (by decide)) rfl q2 (by decide) rfl (st := []) (Nat.le_of_ble_eq_true rfl) rfl d_Press_tellWords_2 ⟨Nat.le_of_ble_eq_true rfl, Nat.le_of_ble_eq_true rfl⟩ ?_
  refine j_istore (lv' := [(4, .int r1), (0, .ref this), (1, .ref a1), (2, .int a2), (3, .int a3)]) K d_Press_tellWords_5 (by decide) rfl ?_
  refine j_aload_n K 1 d_Press_tellWords_7 rfl rfl ?_
  obtain ⟨q3, h⟩ := ck_e h
  refine eg_Press_words K ef_Press_11 q3 d_Press_tellWords_8 ?_
  obtain ⟨o4, e4, h⟩ := bo_e h
  refine j_eqq e4 ?_
  refine j_iconst (v := 4) K d_Press_tellWords_11 (by decide) ?_
  refine j_iload_n K 4 d_Press_tellWords_12 rfl rfl ?_
  obtain ⟨r5, κ5, e5, h⟩ := bd_e h
  refine ecallS_i K hN (c_Integer_bitCount_ok l D θ N a3 κ1 _ e5) eG_Press_43 eh_Integer_bitCount (by decide) (rmA_ok (by decide) (by decide)) rfl (st := [.int 4, .ref o4]) (Nat.le_of_ble_eq_true rfl) rfl d_Press_tellWords_13 ⟨Nat.le_of_ble_eq_true rfl, Nat.le_of_ble_eq_true rfl⟩ ?_
  refine j_i2l K d_Press_tellWords_16 ?_
  obtain ⟨v6, e6, h⟩ := lt_e h
  refine j_eql e6 ?_
  obtain ⟨q7, h⟩ := ck_e h
  obtain ⟨q8, h⟩ := ck_e h
  obtain ⟨κ9, e9, h⟩ := lt_e h
  refine e_last K q7 (inb_e q8) d_Press_tellWords_17 e9 ?_
  refine j_aload_n K 1 d_Press_tellWords_18 rfl rfl ?_
  obtain ⟨q10, h⟩ := ck_e h
  refine eg_Press_words K ef_Press_11 q10 d_Press_tellWords_19 ?_
  obtain ⟨o11, e11, h⟩ := bo_e h
  refine j_eqq e11 ?_
  refine j_iconst (v := 5) K d_Press_tellWords_22 (by decide) ?_
  refine j_iload_n K 3 d_Press_tellWords_23 rfl rfl ?_
  obtain ⟨r12, κ12, e12, h⟩ := bd_e h
  refine ecallS_i K hN (c_Integer_bitCount_ok l D θ N a2 κ9 _ e12) eG_Press_43 eh_Integer_bitCount (by decide) (rmA_ok (by decide) (by decide)) rfl (st := [.int 5, .ref o11]) (Nat.le_of_ble_eq_true rfl) rfl d_Press_tellWords_24 ⟨Nat.le_of_ble_eq_true rfl, Nat.le_of_ble_eq_true rfl⟩ ?_
  refine j_i2l K d_Press_tellWords_27 ?_
  obtain ⟨v13, e13, h⟩ := lt_e h
  refine j_eql e13 ?_
  obtain ⟨q14, h⟩ := ck_e h
  obtain ⟨q15, h⟩ := ck_e h
  obtain ⟨κ16, e16, h⟩ := lt_e h
  refine e_last K q14 (inb_e q15) d_Press_tellWords_28 e16 ?_
  refine j_aload_n K 1 d_Press_tellWords_29 rfl rfl ?_
  obtain ⟨q17, h⟩ := ck_e h
  refine eg_Press_words K ef_Press_11 q17 d_Press_tellWords_30 ?_
  obtain ⟨o18, e18, h⟩ := bo_e h
  refine j_eqq e18 ?_
  refine j_bipush (v := 7) K d_Press_tellWords_33 (by decide) ?_
  refine j_aload_n K 2 d_Press_tellWords_35 rfl rfl ?_
  obtain ⟨q19, h⟩ := ck_e h
  refine eg_State_purse K ef_Press_103 q19 d_Press_tellWords_36 ?_
  refine j_i2l K d_Press_tellWords_39 ?_
  obtain ⟨v20, e20, h⟩ := lt_e h
  refine j_eql e20 ?_
  obtain ⟨q21, h⟩ := ck_e h
  obtain ⟨q22, h⟩ := ck_e h
  obtain ⟨κ23, e23, h⟩ := lt_e h
  refine e_last K q21 (inb_e q22) d_Press_tellWords_40 e23 ?_
  refine j_aload_n K 1 d_Press_tellWords_41 rfl rfl ?_
  refine eg_Press_words K ef_Press_11 (isK_sal e23 q17) d_Press_tellWords_42 ?_
  obtain ⟨o24, e24, h⟩ := bo_e h
  refine j_eqq e24 ?_
  refine j_bipush (v := 8) K d_Press_tellWords_45 (by decide) ?_
  refine j_aload_n K 2 d_Press_tellWords_47 rfl rfl ?_
  refine eg_State_owed K ef_Press_106 (isK_sal e23 q19) d_Press_tellWords_48 ?_
  refine j_i2l K d_Press_tellWords_51 ?_
  obtain ⟨v25, e25, h⟩ := lt_e h
  refine j_eql e25 ?_
  obtain ⟨q26, h⟩ := ck_e h
  obtain ⟨q27, h⟩ := ck_e h
  obtain ⟨κ28, e28, h⟩ := lt_e h
  refine e_last K q26 (inb_e q27) d_Press_tellWords_52 e28 ?_
  refine j_aload_n K 1 d_Press_tellWords_53 rfl rfl ?_
  refine eg_Press_words K ef_Press_11 (isK_sal e28 (isK_sal e23 q17)) d_Press_tellWords_54 ?_
  obtain ⟨o29, e29, h⟩ := bo_e h
  refine j_eqq e29 ?_
  refine j_bipush (v := 9) K d_Press_tellWords_57 (by decide) ?_
  refine j_aload_n K 1 d_Press_tellWords_59 rfl rfl ?_
  refine eg_Press_book K ef_Press_21 (isK_sal e28 (isK_sal e23 q17)) d_Press_tellWords_60 ?_
  obtain ⟨o30, e30, h⟩ := bo_e h
  refine j_eqq e30 ?_
  obtain ⟨q31, h⟩ := ck_e h
  refine eg_Book_from K ef_Press_109 q31 d_Press_tellWords_63 ?_
  obtain ⟨o32, e32, h⟩ := bo_e h
  refine j_eqq e32 ?_
  refine j_iload K 0 d_Press_tellWords_66 rfl ?_
  obtain ⟨q33, h⟩ := ck_e h
  obtain ⟨q34, h⟩ := ck_e h
  refine e_iald K q33 (inb_e q34) d_Press_tellWords_68 ?_
  refine j_i2l K d_Press_tellWords_69 ?_
  obtain ⟨v35, e35, h⟩ := lt_e h
  refine j_eql e35 ?_
  obtain ⟨q36, h⟩ := ck_e h
  obtain ⟨q37, h⟩ := ck_e h
  obtain ⟨κ38, e38, h⟩ := lt_e h
  refine e_last K q36 (inb_e q37) d_Press_tellWords_70 e38 ?_
  refine j_aload_n K 1 d_Press_tellWords_71 rfl rfl ?_
  refine eg_Press_words K ef_Press_11 (isK_sal e38 (isK_sal e28 (isK_sal e23 q17))) d_Press_tellWords_72 ?_
  obtain ⟨o39, e39, h⟩ := bo_e h
  refine j_eqq e39 ?_
  refine j_bipush (v := 10) K d_Press_tellWords_75 (by decide) ?_
  refine j_aload_n K 1 d_Press_tellWords_77 rfl rfl ?_
  refine eg_Press_book K ef_Press_21 (isK_sal e38 (isK_sal e28 (isK_sal e23 q17))) d_Press_tellWords_78 ?_
  obtain ⟨o40, e40, h⟩ := bo_e h
  refine j_eqq e40 ?_
  obtain ⟨q41, h⟩ := ck_e h
  refine eg_Book_to K ef_Press_112 q41 d_Press_tellWords_81 ?_
  obtain ⟨o42, e42, h⟩ := bo_e h
  refine j_eqq e42 ?_
  refine j_iload K 0 d_Press_tellWords_84 rfl ?_
  obtain ⟨q43, h⟩ := ck_e h
  obtain ⟨q44, h⟩ := ck_e h
  refine e_iald K q43 (inb_e q44) d_Press_tellWords_86 ?_
  refine j_i2l K d_Press_tellWords_87 ?_
  obtain ⟨v45, e45, h⟩ := lt_e h
  refine j_eql e45 ?_
  obtain ⟨q46, h⟩ := ck_e h
  obtain ⟨q47, h⟩ := ck_e h
  obtain ⟨κ48, e48, h⟩ := lt_e h
  refine e_last K q46 (inb_e q47) d_Press_tellWords_88 e48 ?_
  refine j_aload_n K 1 d_Press_tellWords_89 rfl rfl ?_
  refine eg_Press_words K ef_Press_11 (isK_sal e48 (isK_sal e38 (isK_sal e28 (isK_sal e23 q17)))) d_Press_tellWords_90 ?_
  obtain ⟨o49, e49, h⟩ := bo_e h
  refine j_eqq e49 ?_
  refine j_bipush (v := 11) K d_Press_tellWords_93 (by decide) ?_
  refine j_aload_n K 2 d_Press_tellWords_95 rfl rfl ?_
  refine eg_State_edition K ef_Press_74 (isK_sal e48 (isK_sal e38 (isK_sal e28 (isK_sal e23 q19)))) d_Press_tellWords_96 ?_
  refine j_i2l K d_Press_tellWords_99 ?_
  obtain ⟨v50, e50, h⟩ := lt_e h
  refine j_eql e50 ?_
  obtain ⟨q51, h⟩ := ck_e h
  obtain ⟨q52, h⟩ := ck_e h
  obtain ⟨κ53, e53, h⟩ := lt_e h
  refine e_last K q51 (inb_e q52) d_Press_tellWords_100 e53 ?_
  exact eret_v K h hr hlk d_Press_tellWords_101
def b_Press_tellWordsOf_6 (N : Nat) : Nat → Nat → Nat → Int32 → Int32 → Int32 → Int32 → Cz → Option (Cz)
  | 0, _, _, _, _, _, _, _ => none
  | n + 1, x0, x1, x2, x3, x4, x5, κ => ck (isK κ x0 4) (bo (fr κ x0 0) (fun o2 => ck (isK κ o2 0) (if (fi κ o2 2) ≤ x5 then bo (fr κ x0 1) (fun o4 => lt (x2.toInt64) (fun v5 => ck (isK κ o4 21) (ck (inb (0 : Int32) (ln κ o4)) (lt (sal o4 (vp_updL (al κ o4) (0 : Int32).toNatClampNeg v5) κ) (fun κ8 => bo (fr κ8 x0 1) (fun o9 => ck (isK κ8 x1 8) (bo (fr κ8 x1 0) (fun o11 => ck (isK κ8 o11 20) (ck (inb x2 (ln κ8 o11)) (lt ((ai κ8 o11 x2.toNatClampNeg).toInt64) (fun v14 => ck (isK κ8 o9 21) (ck (inb (1 : Int32) (ln κ8 o9)) (lt (sal o9 (vp_updL (al κ8 o9) (1 : Int32).toNatClampNeg v14) κ8) (fun κ17 => bo (fr κ17 x0 1) (fun o18 => bo (fr κ17 x0 0) (fun o19 => ck (isK κ17 o19 0) (bo (fr κ17 o19 4) (fun o21 => ck (isK κ17 o21 20) (ck (inb x2 (ln κ17 o21)) (lt ((ai κ17 o21 x2.toNatClampNeg).toInt64) (fun v24 => ck (isK κ17 o18 21) (ck (inb (2 : Int32) (ln κ17 o18)) (lt (sal o18 (vp_updL (al κ17 o18) (2 : Int32).toNatClampNeg v24) κ17) (fun κ27 => bo (fr κ27 x0 1) (fun o28 => lt (x4.toInt64) (fun v29 => ck (isK κ27 o28 21) (ck (inb (3 : Int32) (ln κ27 o28)) (lt (sal o28 (vp_updL (al κ27 o28) (3 : Int32).toNatClampNeg v29) κ27) (fun κ32 => bo (fr κ32 x0 1) (fun o33 => bo (fr κ32 x1 1) (fun o34 => ck (isK κ32 o34 20) (ck (inb x2 (ln κ32 o34)) (lt ((ai κ32 o34 x2.toNatClampNeg).toInt64) (fun v37 => ck (isK κ32 o33 21) (ck (inb (6 : Int32) (ln κ32 o33)) (lt (sal o33 (vp_updL (al κ32 o33) (6 : Int32).toNatClampNeg v37) κ32) (fun κ40 => some κ40))))))))))))))))))))))))))))))))))))) else bd (p_ErrataRow_hasBit N x3 x5 κ) (fun r41 κ41 => if r41 = 0 then lt (x5 + 1) (fun v42 => b_Press_tellWordsOf_6 N n x0 x1 x2 x3 x4 v42 κ41) else ck (isK κ41 x1 8) (bo (fr κ41 x1 2) (fun o44 => ck (isK κ41 o44 20) (ck (inb x5 (ln κ41 o44)) (bd (p_ErrataRow_hasBit N (ai κ41 o44 x5.toNatClampNeg) x2 κ41) (fun r47 κ47 => if r47 = 0 then lt (x5 + 1) (fun v48 => b_Press_tellWordsOf_6 N n x0 x1 x2 x3 x4 v48 κ47) else lt (x4 + 1) (fun v49 => lt (x5 + 1) (fun v50 => b_Press_tellWordsOf_6 N n x0 x1 x2 x3 v49 v50 κ47)))))))))))
set_option maxHeartbeats 4000000 in
set_option maxRecDepth 100000 in
theorem t_Press_tellWordsOf_6 {p : Program} {l : Launch} {e : Env} {s : State} {m : MethodId} {args : Array Value} {below : List Frame} {meth : Method} {c : Code} {D : va_G} {θ : Tc} {A : Nat → Prop} (K : KE p s m args c c_Press_tellWordsOf 6 "ErrataRow$Press" y_Press_tellWordsOf none D θ A) (hN : NX s) (hr : meth.sig.returnType = none) (hlk : meth.locks = false) (N : Nat) (ρ : Cz) : ∀ (n : Nat) (x0 : Nat) (x1 : Nat) (x2 : Int32) (x3 : Int32) (x4 : Int32) (x5 : Int32) (κ : Cz), b_Press_tellWordsOf_6 N n x0 x1 x2 x3 x4 x5 κ = some ρ → JE p l e (rmA 2 0 0) s m args below meth c D θ A 6 0 0 (QEv below args s D θ A 0 0 ρ) κ [(0, .ref x0), (1, .ref x1), (2, .int x2), (3, .int x3), (4, .int x4), (5, .int x5)] [] 6 := by
  intro n
  induction n with
  | zero =>
    intro x0 x1 x2 x3 x4 x5 κ h
    exact absurd h (by simp [b_Press_tellWordsOf_6])
  | succ n ih =>
    intro x0 x1 x2 x3 x4 x5 κ h
    rw [b_Press_tellWordsOf_6] at h
    refine j_iload K 5 d_Press_tellWordsOf_6 rfl ?_
    refine j_aload_n K 0 d_Press_tellWordsOf_8 rfl rfl ?_
    obtain ⟨q1, h⟩ := ck_e h
    refine eg_Press_book K ef_Press_21 q1 d_Press_tellWordsOf_9 ?_
    obtain ⟨o2, e2, h⟩ := bo_e h
    refine j_eqq e2 ?_
    obtain ⟨q3, h⟩ := ck_e h
    refine eg_Book_letters K ef_Press_25 q3 d_Press_tellWordsOf_12 ?_
    refine j_icmp_ge (tgt := 50) K d_Press_tellWordsOf_15 (by decide) (fun q => ?_) (fun q => ?_)
    · have h := if_t h q
      refine j_aload_n K 0 d_Press_tellWordsOf_50 rfl rfl ?_
      refine eg_Press_words K ef_Press_11 q1 d_Press_tellWordsOf_51 ?_
      obtain ⟨o4, e4, h⟩ := bo_e h
      refine j_eqq e4 ?_
      refine j_iconst (v := 0) K d_Press_tellWordsOf_54 (by decide) ?_
      refine j_iload_n K 2 d_Press_tellWordsOf_55 rfl rfl ?_
      refine j_i2l K d_Press_tellWordsOf_56 ?_
      obtain ⟨v5, e5, h⟩ := lt_e h
      refine j_eql e5 ?_
      obtain ⟨q6, h⟩ := ck_e h
      obtain ⟨q7, h⟩ := ck_e h
      obtain ⟨κ8, e8, h⟩ := lt_e h
      refine e_last K q6 (inb_e q7) d_Press_tellWordsOf_57 e8 ?_
      refine j_aload_n K 0 d_Press_tellWordsOf_58 rfl rfl ?_
      refine eg_Press_words K ef_Press_11 (isK_sal e8 q1) d_Press_tellWordsOf_59 ?_
      obtain ⟨o9, e9, h⟩ := bo_e h
      refine j_eqq e9 ?_
      refine j_iconst (v := 1) K d_Press_tellWordsOf_62 (by decide) ?_
      refine j_aload_n K 1 d_Press_tellWordsOf_63 rfl rfl ?_
      obtain ⟨q10, h⟩ := ck_e h
      refine eg_State_put K ef_Press_30 q10 d_Press_tellWordsOf_64 ?_
      obtain ⟨o11, e11, h⟩ := bo_e h
      refine j_eqq e11 ?_
      refine j_iload_n K 2 d_Press_tellWordsOf_67 rfl rfl ?_
      obtain ⟨q12, h⟩ := ck_e h
      obtain ⟨q13, h⟩ := ck_e h
      refine e_iald K q12 (inb_e q13) d_Press_tellWordsOf_68 ?_
      refine j_i2l K d_Press_tellWordsOf_69 ?_
      obtain ⟨v14, e14, h⟩ := lt_e h
      refine j_eql e14 ?_
      obtain ⟨q15, h⟩ := ck_e h
      obtain ⟨q16, h⟩ := ck_e h
      obtain ⟨κ17, e17, h⟩ := lt_e h
      refine e_last K q15 (inb_e q16) d_Press_tellWordsOf_70 e17 ?_
      refine j_aload_n K 0 d_Press_tellWordsOf_71 rfl rfl ?_
      refine eg_Press_words K ef_Press_11 (isK_sal e17 (isK_sal e8 q1)) d_Press_tellWordsOf_72 ?_
      obtain ⟨o18, e18, h⟩ := bo_e h
      refine j_eqq e18 ?_
      refine j_iconst (v := 2) K d_Press_tellWordsOf_75 (by decide) ?_
      refine j_aload_n K 0 d_Press_tellWordsOf_76 rfl rfl ?_
      refine eg_Press_book K ef_Press_21 (isK_sal e17 (isK_sal e8 q1)) d_Press_tellWordsOf_77 ?_
      obtain ⟨o19, e19, h⟩ := bo_e h
      refine j_eqq e19 ?_
      obtain ⟨q20, h⟩ := ck_e h
      refine eg_Book_meant K ef_Press_36 q20 d_Press_tellWordsOf_80 ?_
      obtain ⟨o21, e21, h⟩ := bo_e h
      refine j_eqq e21 ?_
      refine j_iload_n K 2 d_Press_tellWordsOf_83 rfl rfl ?_
      obtain ⟨q22, h⟩ := ck_e h
      obtain ⟨q23, h⟩ := ck_e h
      refine e_iald K q22 (inb_e q23) d_Press_tellWordsOf_84 ?_
      refine j_i2l K d_Press_tellWordsOf_85 ?_
      obtain ⟨v24, e24, h⟩ := lt_e h
      refine j_eql e24 ?_
      obtain ⟨q25, h⟩ := ck_e h
      obtain ⟨q26, h⟩ := ck_e h
      obtain ⟨κ27, e27, h⟩ := lt_e h
      refine e_last K q25 (inb_e q26) d_Press_tellWordsOf_86 e27 ?_
      refine j_aload_n K 0 d_Press_tellWordsOf_87 rfl rfl ?_
      refine eg_Press_words K ef_Press_11 (isK_sal e27 (isK_sal e17 (isK_sal e8 q1))) d_Press_tellWordsOf_88 ?_
      obtain ⟨o28, e28, h⟩ := bo_e h
      refine j_eqq e28 ?_
      refine j_iconst (v := 3) K d_Press_tellWordsOf_91 (by decide) ?_
      refine j_iload K 4 d_Press_tellWordsOf_92 rfl ?_
      refine j_i2l K d_Press_tellWordsOf_94 ?_
      obtain ⟨v29, e29, h⟩ := lt_e h
      refine j_eql e29 ?_
      obtain ⟨q30, h⟩ := ck_e h
      obtain ⟨q31, h⟩ := ck_e h
      obtain ⟨κ32, e32, h⟩ := lt_e h
      refine e_last K q30 (inb_e q31) d_Press_tellWordsOf_95 e32 ?_
      refine j_aload_n K 0 d_Press_tellWordsOf_96 rfl rfl ?_
      refine eg_Press_words K ef_Press_11 (isK_sal e32 (isK_sal e27 (isK_sal e17 (isK_sal e8 q1)))) d_Press_tellWordsOf_97 ?_
      obtain ⟨o33, e33, h⟩ := bo_e h
      refine j_eqq e33 ?_
      refine j_bipush (v := 6) K d_Press_tellWordsOf_100 (by decide) ?_
      refine j_aload_n K 1 d_Press_tellWordsOf_102 rfl rfl ?_
      refine eg_State_paid K ef_Press_115 (isK_sal e32 (isK_sal e27 (isK_sal e17 q10))) d_Press_tellWordsOf_103 ?_
      obtain ⟨o34, e34, h⟩ := bo_e h
      refine j_eqq e34 ?_
      refine j_iload_n K 2 d_Press_tellWordsOf_106 rfl rfl ?_
      obtain ⟨q35, h⟩ := ck_e h
      obtain ⟨q36, h⟩ := ck_e h
      refine e_iald K q35 (inb_e q36) d_Press_tellWordsOf_107 ?_
      refine j_i2l K d_Press_tellWordsOf_108 ?_
      obtain ⟨v37, e37, h⟩ := lt_e h
      refine j_eql e37 ?_
      obtain ⟨q38, h⟩ := ck_e h
      obtain ⟨q39, h⟩ := ck_e h
      obtain ⟨κ40, e40, h⟩ := lt_e h
      refine e_last K q38 (inb_e q39) d_Press_tellWordsOf_109 e40 ?_
      exact eret_v K h hr hlk d_Press_tellWordsOf_110
    · have h := if_f h q
      refine j_iload_n K 3 d_Press_tellWordsOf_18 rfl rfl ?_
      refine j_iload K 5 d_Press_tellWordsOf_19 rfl ?_
      obtain ⟨r41, κ41, e41, h⟩ := bd_e h
      refine ecallN_i K hN (c_ErrataRow_hasBit_ok l D θ N x3 x5 κ _ e41) ec_ErrataRow_hasBit ei_ErrataRow es_ErrataRow_hasBit (NX_Press_53 hN) eh_ErrataRow_hasBit (by decide) (rmA_ok (by decide) (by decide)) rfl (st := []) (Nat.le_of_ble_eq_true rfl) rfl d_Press_tellWordsOf_21 ⟨Nat.le_of_ble_eq_true rfl, Nat.le_of_ble_eq_true rfl⟩ ?_
      refine j_if_eq (tgt := 44) K d_Press_tellWordsOf_24 (by decide) (fun q => ?_) (fun q => ?_)
      · have h := if_t h q
        obtain ⟨v42, e42, h⟩ := lt_e h
        refine j_iinc (k := 5) (v := v42) (lv' := [(5, .int v42), (0, .ref x0), (1, .ref x1), (2, .int x2), (3, .int x3), (4, .int x4)]) K d_Press_tellWordsOf_44 rfl (by rw [e42]; rfl) (by decide) rfl ?_
        refine j_goto (tgt := 6) K d_Press_tellWordsOf_47 (by decide) ?_
        refine j_sub [1, 2, 3, 4, 5, 0] rfl ?_
        exact ih x0 x1 x2 x3 x4 v42 κ41 h
      · have h := if_f h q
        refine j_aload_n K 1 d_Press_tellWordsOf_27 rfl rfl ?_
        obtain ⟨q43, h⟩ := ck_e h
        refine eg_State_hangs K ef_Press_57 q43 d_Press_tellWordsOf_28 ?_
        obtain ⟨o44, e44, h⟩ := bo_e h
        refine j_eqq e44 ?_
        refine j_iload K 5 d_Press_tellWordsOf_31 rfl ?_
        obtain ⟨q45, h⟩ := ck_e h
        obtain ⟨q46, h⟩ := ck_e h
        refine e_iald K q45 (inb_e q46) d_Press_tellWordsOf_33 ?_
        refine j_iload_n K 2 d_Press_tellWordsOf_34 rfl rfl ?_
        obtain ⟨r47, κ47, e47, h⟩ := bd_e h
        refine ecallN_i K hN (c_ErrataRow_hasBit_ok l D θ N (ai κ41 o44 x5.toNatClampNeg) x2 κ41 _ e47) ec_ErrataRow_hasBit ei_ErrataRow es_ErrataRow_hasBit (NX_Press_53 hN) eh_ErrataRow_hasBit (by decide) (rmA_ok (by decide) (by decide)) rfl (st := []) (Nat.le_of_ble_eq_true rfl) rfl d_Press_tellWordsOf_35 ⟨Nat.le_of_ble_eq_true rfl, Nat.le_of_ble_eq_true rfl⟩ ?_
        refine j_if_eq (tgt := 44) K d_Press_tellWordsOf_38 (by decide) (fun q => ?_) (fun q => ?_)
        · have h := if_t h q
          obtain ⟨v48, e48, h⟩ := lt_e h
          refine j_iinc (k := 5) (v := v48) (lv' := [(5, .int v48), (0, .ref x0), (1, .ref x1), (2, .int x2), (3, .int x3), (4, .int x4)]) K d_Press_tellWordsOf_44 rfl (by rw [e48]; rfl) (by decide) rfl ?_
          refine j_goto (tgt := 6) K d_Press_tellWordsOf_47 (by decide) ?_
          refine j_sub [1, 2, 3, 4, 5, 0] rfl ?_
          exact ih x0 x1 x2 x3 x4 v48 κ47 h
        · have h := if_f h q
          obtain ⟨v49, e49, h⟩ := lt_e h
          refine j_iinc (k := 4) (v := v49) (lv' := [(4, .int v49), (0, .ref x0), (1, .ref x1), (2, .int x2), (3, .int x3), (5, .int x5)]) K d_Press_tellWordsOf_41 rfl (by rw [e49]; rfl) (by decide) rfl ?_
          obtain ⟨v50, e50, h⟩ := lt_e h
          refine j_iinc (k := 5) (v := v50) (lv' := [(5, .int v50), (4, .int v49), (0, .ref x0), (1, .ref x1), (2, .int x2), (3, .int x3)]) K d_Press_tellWordsOf_44 rfl (by rw [e50]; rfl) (by decide) rfl ?_
          refine j_goto (tgt := 6) K d_Press_tellWordsOf_47 (by decide) ?_
          refine j_sub [2, 3, 4, 5, 1, 0] rfl ?_
          exact ih x0 x1 x2 x3 v49 v50 κ47 h
def p_Press_tellWordsOf (N : Nat) (this : Nat) (a1 : Nat) (a2 : Int32) (a3 : Int32) (κ : Cz) : Option (Cz) := b_Press_tellWordsOf_6 N N this a1 a2 a3 0 0 κ
set_option maxHeartbeats 4000000 in
set_option maxRecDepth 100000 in
theorem c_Press_tellWordsOf_ok (l : Launch) (D : va_G) (θ : Tc) (N : Nat) (this : Nat) (a1 : Nat) (a2 : Int32) (a3 : Int32) (κ : Cz) (ρ : Cz) (h : p_Press_tellWordsOf N this a1 a2 a3 κ = some ρ) : CEv l D θ y_Press_tellWordsOf c_Press_tellWordsOf 6 none 2 0 0 [.ref this, .ref a1, .int a2, .int a3] κ ρ := by
  intro sz
  refine e_met l [.ref this, .ref a1, .int a2, .int a3] (by decide +kernel) (Nat.le_of_ble_eq_true rfl) ?_
  intro p e s m args below meth c K hN hr hlk hnm hs
  generalize va_A (wE θ κ) sz = A at K ⊢
  have K : KE p s m args c c_Press_tellWordsOf 6 "ErrataRow$Press" y_Press_tellWordsOf none D θ A := K
  show JE p l e (rmA 2 0 0) s m args below meth c D θ A 6 0 0 (QEv below args s D θ A 0 0 ρ) κ [(0, .ref this), (1, .ref a1), (2, .int a2), (3, .int a3)] [] 0
  unfold p_Press_tellWordsOf at h
  refine j_iconst (v := 0) K d_Press_tellWordsOf_0 (by decide) ?_
  refine j_istore (lv' := [(4, .int 0), (0, .ref this), (1, .ref a1), (2, .int a2), (3, .int a3)]) K d_Press_tellWordsOf_1 (by decide) rfl ?_
  refine j_iconst (v := 0) K d_Press_tellWordsOf_3 (by decide) ?_
  refine j_istore (lv' := [(5, .int 0), (4, .int 0), (0, .ref this), (1, .ref a1), (2, .int a2), (3, .int a3)]) K d_Press_tellWordsOf_4 (by decide) rfl ?_
  refine j_sub [2, 3, 4, 5, 1, 0] rfl ?_
  exact t_Press_tellWordsOf_6 K hN hr hlk N ρ N this a1 a2 a3 0 0 κ h
