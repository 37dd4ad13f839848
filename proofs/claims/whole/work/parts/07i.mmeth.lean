def b12_unpaid_28 (N : Nat) : Nat → Int32 → Int32 → Int32 → Mz → Option (Int32 × Mz)
  | 0, _, _, _, _ => none
  | n + 1, x1, x2, x3, μ => if 200 ≤ x3 then bo (p12_laysBack N  μ) (fun μ4 => some (x2, μ4)) else if 0 ≤ x2 then bo (p12_laysBack N  μ) (fun μ5 => some (x2, μ5)) else bd (p12_passes N  μ) (fun r6 μ6 => if (gi 14 μ6) = 0 then lt (x3 + 1) (fun v7 => b12_unpaid_28 N n x1 x2 v7 μ6) else if x1 = 0 then lt ((ga 7 μ6 (10 : Int32).toNatClampNeg) - 1) (fun v10 => lt (x3 + 1) (fun v11 => b12_unpaid_28 N n x1 v10 v11 μ6)) else bo (p12_leastOf N (gi 14 μ6)) (fun r8 => lt (x3 + 1) (fun v9 => b12_unpaid_28 N n x1 r8 v9 μ6)))
set_option maxHeartbeats 4000000 in
set_option maxRecDepth 100000 in
theorem t12_unpaid_28 {p : Program} {l : Launch} {e : Env} {s : State} {m : MethodId} {args : Array Value} {below : List Frame} {meth : Method} {c : Code} {D : va_G} {θ : Th} {A : Nat → Prop} (K : KM p s m args c c12_unpaid 4 y12_unpaid (some .int) D θ A) (hr : meth.sig.returnType = (some .int)) (hlk : meth.locks = false) (N : Nat) (ρ : Int32 × Mz) : ∀ (n : Nat) (x1 : Int32) (x2 : Int32) (x3 : Int32) (μ : Mz), b12_unpaid_28 N n x1 x2 x3 μ = some ρ → JM p l e s m args below meth c D θ A 8 4 (QMi below args s D θ A ρ) μ [(0, .ref θ.1), (1, .int x1), (2, .int x2), (3, .int x3)] [] 28 := by
  intro n
  induction n with
  | zero =>
    intro x1 x2 x3 μ h
    exact absurd h (by simp [b12_unpaid_28])
  | succ n ih =>
    intro x1 x2 x3 μ h
    rw [b12_unpaid_28] at h
    refine j_iload_n K 3 d12_unpaid_28 rfl rfl ?_
    refine j_sipush (v := 200) K d12_unpaid_29 (by decide) ?_
    refine j_icmp_ge (tgt := 81) K d12_unpaid_32 (by decide) (fun q => ?_) (fun q => ?_)
    · have h := if_t h q
      refine j_aload_n K 0 d12_unpaid_81 rfl rfl ?_
      obtain ⟨μ4, e4, h⟩ := bo_e h
      refine mcall_v K (c12_laysBack_ok l D θ N  μ _ e4) mG_laysBack mh_laysBack (by decide) (by decide) rfl (st := []) (Nat.le_of_ble_eq_true rfl) rfl d12_unpaid_82 ?_
      refine j_iload_n K 2 d12_unpaid_85 rfl rfl ?_
      exact mret_i K h hr hlk d12_unpaid_86
    · have h := if_f h q
      refine j_iload_n K 2 d12_unpaid_35 rfl rfl ?_
      refine j_if_ge (tgt := 81) K d12_unpaid_36 (by decide) (fun q => ?_) (fun q => ?_)
      · have h := if_t h q
        refine j_aload_n K 0 d12_unpaid_81 rfl rfl ?_
        obtain ⟨μ5, e5, h⟩ := bo_e h
        refine mcall_v K (c12_laysBack_ok l D θ N  μ _ e5) mG_laysBack mh_laysBack (by decide) (by decide) rfl (st := []) (Nat.le_of_ble_eq_true rfl) rfl d12_unpaid_82 ?_
        refine j_iload_n K 2 d12_unpaid_85 rfl rfl ?_
        exact mret_i K h hr hlk d12_unpaid_86
      · have h := if_f h q
        refine j_aload_n K 0 d12_unpaid_39 rfl rfl ?_
        obtain ⟨r6, μ6, e6, h⟩ := bd_e h
        refine mcall_i K (c12_passes_ok l D θ N  μ _ e6) mG_passes mh_passes (by decide) (by decide) rfl (st := []) (Nat.le_of_ble_eq_true rfl) rfl d12_unpaid_40 ?_
        refine j_pop K d12_unpaid_43 rfl ?_
        refine j_aload_n K 0 d12_unpaid_44 rfl rfl ?_
        refine mg_owedFor K d12_unpaid_45 ?_
        refine j_if_eq (tgt := 75) K d12_unpaid_48 (by decide) (fun q => ?_) (fun q => ?_)
        · have h := if_t h q
          obtain ⟨v7, e7, h⟩ := lt_e h
          refine j_iinc (k := 3) (v := v7) (lv' := [(3, .int v7), (0, .ref θ.1), (1, .int x1), (2, .int x2)]) K d12_unpaid_75 rfl (by rw [e7]; rfl) (by decide) rfl ?_
          refine j_goto (tgt := 28) K d12_unpaid_78 (by decide) ?_
          refine j_sub [1, 2, 3, 0] rfl ?_
          exact ih x1 x2 v7 μ6 h
        · have h := if_f h q
          refine j_iload_n K 1 d12_unpaid_51 rfl rfl ?_
          refine j_if_ne (tgt := 67) K d12_unpaid_52 (by decide) (fun q => ?_) (fun q => ?_)
          · have h := if_f h q
            refine j_aload_n K 0 d12_unpaid_67 rfl rfl ?_
            refine mg_owedFor K d12_unpaid_68 ?_
            obtain ⟨r8, e8, h⟩ := bo_e h
            refine mcalls_i K (c12_leastOf_ok l D θ N (gi 14 μ6) _ e8) mG_leastOf mh_leastOf (by decide) (by decide) rfl (st := []) (Nat.le_of_ble_eq_true rfl) rfl d12_unpaid_71 ?_
            refine j_istore_n (lv' := [(2, .int r8), (0, .ref θ.1), (1, .int x1), (3, .int x3)]) K d12_unpaid_74 rfl (by decide) rfl ?_
            obtain ⟨v9, e9, h⟩ := lt_e h
            refine j_iinc (k := 3) (v := v9) (lv' := [(3, .int v9), (2, .int r8), (0, .ref θ.1), (1, .int x1)]) K d12_unpaid_75 rfl (by rw [e9]; rfl) (by decide) rfl ?_
            refine j_goto (tgt := 28) K d12_unpaid_78 (by decide) ?_
            refine j_sub [2, 3, 1, 0] rfl ?_
            exact ih x1 r8 v9 μ6 h
          · have h := if_t h q
            refine j_aload_n K 0 d12_unpaid_55 rfl rfl ?_
            refine mg_said K d12_unpaid_56 ?_
            refine j_bipush (v := 10) K d12_unpaid_59 (by decide) ?_
            refine ml_said K (inb_e (by decide)) d12_unpaid_61 ?_
            refine j_iconst (v := 1) K d12_unpaid_62 (by decide) ?_
            refine j_isub K d12_unpaid_63 ?_
            refine j_goto (tgt := 74) K d12_unpaid_64 (by decide) ?_
            obtain ⟨v10, e10, h⟩ := lt_e h
            refine j_eqi e10 ?_
            refine j_istore_n (lv' := [(2, .int v10), (0, .ref θ.1), (1, .int x1), (3, .int x3)]) K d12_unpaid_74 rfl (by decide) rfl ?_
            obtain ⟨v11, e11, h⟩ := lt_e h
            refine j_iinc (k := 3) (v := v11) (lv' := [(3, .int v11), (2, .int v10), (0, .ref θ.1), (1, .int x1)]) K d12_unpaid_75 rfl (by rw [e11]; rfl) (by decide) rfl ?_
            refine j_goto (tgt := 28) K d12_unpaid_78 (by decide) ?_
            refine j_sub [2, 3, 1, 0] rfl ?_
            exact ih x1 v10 v11 μ6 h
def p12_unpaid (N : Nat) (a1 : Int32) (μ : Mz) : Option (Int32 × Mz) := bd (p12_isBook N  μ) (fun r1 μ1 => if r1 = 0 then some ((-1), μ1) else bo (p12_in N (a1.toInt64) 0 1) (fun r2 => if r2 = 0 then some ((-1), μ1) else bo (p12_keeps N  μ1) (fun μ3 => b12_unpaid_28 N N a1 (-2) 0 μ3)))
set_option maxHeartbeats 4000000 in
set_option maxRecDepth 100000 in
theorem c12_unpaid_ok (l : Launch) (D : va_G) (θ : Th) (N : Nat) (a1 : Int32) (μ : Mz) (ρ : Int32 × Mz) (h : p12_unpaid N a1 μ = some ρ) : CMi l D θ y12_unpaid c12_unpaid 4 (some .int) 8 [.int a1] μ ρ := by
  intro sz
  refine j_met l [.ref θ.1, .int a1] (by decide +kernel) (Nat.le_of_ble_eq_true rfl) ?_
  intro p e s m args below meth c K hr hlk hnm hs
  generalize va_A (wM θ μ) sz = A at K ⊢
  have K : KM p s m args c c12_unpaid 4 y12_unpaid (some .int) D θ A := K
  show JM p l e s m args below meth c D θ A 8 4 (QMi below args s D θ A ρ) μ [(0, .ref θ.1), (1, .int a1)] [] 0
  unfold p12_unpaid at h
  refine j_aload_n K 0 d12_unpaid_0 rfl rfl ?_
  obtain ⟨r1, μ1, e1, h⟩ := bd_e h
  refine mcall_i K (c12_isBook_ok l D θ N  μ _ e1) mG_isBook mh_isBook (by decide) (by decide) rfl (st := []) (Nat.le_of_ble_eq_true rfl) rfl d12_unpaid_1 ?_
  refine j_if_eq (tgt := 17) K d12_unpaid_4 (by decide) (fun q => ?_) (fun q => ?_)
  · have h := if_t h q
    refine j_iconst (v := (-1)) K d12_unpaid_17 (by decide) ?_
    exact mret_i K h hr hlk d12_unpaid_18
  · have h := if_f h q
    refine j_iload_n K 1 d12_unpaid_7 rfl rfl ?_
    refine j_i2l K d12_unpaid_8 ?_
    refine j_lconst (v := 0) K d12_unpaid_9 (by decide) ?_
    refine j_lconst (v := 1) K d12_unpaid_10 (by decide) ?_
    obtain ⟨r2, e2, h⟩ := bo_e h
    refine mcalls_i K (c12_in_ok l D θ N (a1.toInt64) 0 1 _ e2) mG_in mh_in (by decide) (by decide) rfl (st := []) (Nat.le_of_ble_eq_true rfl) rfl d12_unpaid_11 ?_
    refine j_if_ne (tgt := 19) K d12_unpaid_14 (by decide) (fun q => ?_) (fun q => ?_)
    · have h := if_f h q
      refine j_bipush (v := (-2)) K d12_unpaid_19 (by decide) ?_
      refine j_istore_n (lv' := [(2, .int (-2)), (0, .ref θ.1), (1, .int a1)]) K d12_unpaid_21 rfl (by decide) rfl ?_
      refine j_aload_n K 1 d12_unpaid_22 rfl rfl ?_
      obtain ⟨μ3, e3, h⟩ := bo_e h
      refine mcall_v K (c12_keeps_ok l D θ N  μ1 _ e3) mG_keeps mh_keeps (by decide) (by decide) rfl (st := []) (Nat.le_of_ble_eq_true rfl) rfl d12_unpaid_23 ?_
      refine j_iconst (v := 0) K d12_unpaid_26 (by decide) ?_
      refine j_istore_n (lv' := [(3, .int 0), (2, .int (-2)), (0, .ref θ.1), (1, .int a1)]) K d12_unpaid_27 rfl (by decide) rfl ?_
      refine j_sub [2, 3, 1, 0] rfl ?_
      exact t12_unpaid_28 K hr hlk N ρ N a1 (-2) 0 μ3 h
    · have h := if_t h q
      refine j_iconst (v := (-1)) K d12_unpaid_17 (by decide) ?_
      exact mret_i K h hr hlk d12_unpaid_18
def p12_row (N : Nat) (a1 : Int32) (a2 : Int32) (μ : Mz) : Option (Int32 × Mz) := bd (p12_isBook N  μ) (fun r1 μ1 => if r1 = 0 then some ((-3), μ1) else bo (p12_in N (a1.toInt64) 1 4) (fun r2 => if r2 = 0 then some ((-3), μ1) else bo (p12_in N (a2.toInt64) 0 4) (fun r3 => if r3 = 0 then some ((-3), μ1) else bd (p12_findsRow N a1 μ1) (fun r4 μ4 => if a2 = 0 then some (r4, μ4) else if a1 < a2 then some ((-2), μ4) else lt (a2 - 1) (fun v5 => ck (inb v5 4) (some (ga 11 μ4 v5.toNatClampNeg, μ4)))))))
set_option maxHeartbeats 4000000 in
set_option maxRecDepth 100000 in
theorem c12_row_ok (l : Launch) (D : va_G) (θ : Th) (N : Nat) (a1 : Int32) (a2 : Int32) (μ : Mz) (ρ : Int32 × Mz) (h : p12_row N a1 a2 μ = some ρ) : CMi l D θ y12_row c12_row 4 (some .int) 8 [.int a1, .int a2] μ ρ := by
  intro sz
  refine j_met l [.ref θ.1, .int a1, .int a2] (by decide +kernel) (Nat.le_of_ble_eq_true rfl) ?_
  intro p e s m args below meth c K hr hlk hnm hs
  generalize va_A (wM θ μ) sz = A at K ⊢
  have K : KM p s m args c c12_row 4 y12_row (some .int) D θ A := K
  show JM p l e s m args below meth c D θ A 8 4 (QMi below args s D θ A ρ) μ [(0, .ref θ.1), (1, .int a1), (2, .int a2)] [] 0
  unfold p12_row at h
  refine j_aload_n K 0 d12_row_0 rfl rfl ?_
  obtain ⟨r1, μ1, e1, h⟩ := bd_e h
  refine mcall_i K (c12_isBook_ok l D θ N  μ _ e1) mG_isBook mh_isBook (by decide) (by decide) rfl (st := []) (Nat.le_of_ble_eq_true rfl) rfl d12_row_1 ?_
  refine j_if_eq (tgt := 31) K d12_row_4 (by decide) (fun q => ?_) (fun q => ?_)
  · have h := if_t h q
    refine j_bipush (v := (-3)) K d12_row_31 (by decide) ?_
    exact mret_i K h hr hlk d12_row_33
  · have h := if_f h q
    refine j_iload_n K 1 d12_row_7 rfl rfl ?_
    refine j_i2l K d12_row_8 ?_
    refine j_lconst (v := 1) K d12_row_9 (by decide) ?_
    refine j_ldc2 (v := 4) K (List.mem_cons_of_mem _ mk12_393) d12_row_10 ?_
    obtain ⟨r2, e2, h⟩ := bo_e h
    refine mcalls_i K (c12_in_ok l D θ N (a1.toInt64) 1 4 _ e2) mG_in mh_in (by decide) (by decide) rfl (st := []) (Nat.le_of_ble_eq_true rfl) rfl d12_row_13 ?_
    refine j_if_eq (tgt := 31) K d12_row_16 (by decide) (fun q => ?_) (fun q => ?_)
    · have h := if_t h q
      refine j_bipush (v := (-3)) K d12_row_31 (by decide) ?_
      exact mret_i K h hr hlk d12_row_33
    · have h := if_f h q
      refine j_iload_n K 2 d12_row_19 rfl rfl ?_
      refine j_i2l K d12_row_20 ?_
      refine j_lconst (v := 0) K d12_row_21 (by decide) ?_
      refine j_ldc2 (v := 4) K (List.mem_cons_of_mem _ mk12_393) d12_row_22 ?_
      obtain ⟨r3, e3, h⟩ := bo_e h
      refine mcalls_i K (c12_in_ok l D θ N (a2.toInt64) 0 4 _ e3) mG_in mh_in (by decide) (by decide) rfl (st := []) (Nat.le_of_ble_eq_true rfl) rfl d12_row_25 ?_
      refine j_if_ne (tgt := 34) K d12_row_28 (by decide) (fun q => ?_) (fun q => ?_)
      · have h := if_f h q
        refine j_aload_n K 0 d12_row_34 rfl rfl ?_
        refine j_iload_n K 1 d12_row_35 rfl rfl ?_
        obtain ⟨r4, μ4, e4, h⟩ := bd_e h
        refine mcall_i K (c12_findsRow_ok l D θ N a1 μ1 _ e4) mG_findsRow mh_findsRow (by decide) (by decide) rfl (st := []) (Nat.le_of_ble_eq_true rfl) rfl d12_row_36 ?_
        refine j_istore_n (lv' := [(3, .int r4), (0, .ref θ.1), (1, .int a1), (2, .int a2)]) K d12_row_39 rfl (by decide) rfl ?_
        refine j_iload_n K 3 d12_row_40 rfl rfl ?_
        refine j_if_ne (tgt := 48) K d12_row_41 (by decide) (fun q => ?_) (fun q => ?_)
        · have h := if_f h q
          refine j_iload_n K 3 d12_row_48 rfl rfl ?_
          refine j_iload_n K 2 d12_row_49 rfl rfl ?_
          refine j_icmp_gt (tgt := 64) K d12_row_50 (by decide) (fun q => ?_) (fun q => ?_)
          · have h := if_t h q
            refine j_bipush (v := (-2)) K d12_row_64 (by decide) ?_
            exact mret_i K h hr hlk d12_row_66
          · have h := if_f h q
            refine j_aload_n K 1 d12_row_53 rfl rfl ?_
            refine mg_rowBest K d12_row_54 ?_
            refine j_iload_n K 3 d12_row_57 rfl rfl ?_
            refine j_iconst (v := 1) K d12_row_58 (by decide) ?_
            refine j_isub K d12_row_59 ?_
            obtain ⟨v5, e5, h⟩ := lt_e h
            refine j_eqi e5 ?_
            obtain ⟨q6, h⟩ := ck_e h
            refine ml_rowBest K (inb_e q6) d12_row_60 ?_
            refine j_goto (tgt := 66) K d12_row_61 (by decide) ?_
            exact mret_i K h hr hlk d12_row_66
        · have h := if_t h q
          refine j_iload_n K 0 d12_row_44 rfl rfl ?_
          refine j_goto (tgt := 66) K d12_row_45 (by decide) ?_
          exact mret_i K h hr hlk d12_row_66
      · have h := if_t h q
        refine j_bipush (v := (-3)) K d12_row_31 (by decide) ?_
        exact mret_i K h hr hlk d12_row_33
def b12_isAllPaid_2 (N : Nat) : Nat → Int32 → Int32 → Mz → Option (Int32 × Mz)
  | 0, _, _, _ => none
  | n + 1, x1, x2, μ => if x1 ≤ x2 then some (1, μ) else bd (p12_passes N  μ) (fun r1 μ1 => if (gi 14 μ1) = 0 then lt (x2 + 1) (fun v2 => b12_isAllPaid_2 N n x1 v2 μ1) else some (0, μ1))
set_option maxHeartbeats 4000000 in
set_option maxRecDepth 100000 in
theorem t12_isAllPaid_2 {p : Program} {l : Launch} {e : Env} {s : State} {m : MethodId} {args : Array Value} {below : List Frame} {meth : Method} {c : Code} {D : va_G} {θ : Th} {A : Nat → Prop} (K : KM p s m args c c12_isAllPaid 3 y12_isAllPaid (some .boolean) D θ A) (hr : meth.sig.returnType = (some .boolean)) (hlk : meth.locks = false) (N : Nat) (ρ : Int32 × Mz) : ∀ (n : Nat) (x1 : Int32) (x2 : Int32) (μ : Mz), b12_isAllPaid_2 N n x1 x2 μ = some ρ → JM p l e s m args below meth c D θ A 8 3 (QMi below args s D θ A ρ) μ [(0, .ref θ.1), (1, .int x1), (2, .int x2)] [] 2 := by
  intro n
  induction n with
  | zero =>
    intro x1 x2 μ h
    exact absurd h (by simp [b12_isAllPaid_2])
  | succ n ih =>
    intro x1 x2 μ h
    rw [b12_isAllPaid_2] at h
    refine j_iload_n K 2 d12_isAllPaid_2 rfl rfl ?_
    refine j_iload_n K 1 d12_isAllPaid_3 rfl rfl ?_
    refine j_icmp_ge (tgt := 27) K d12_isAllPaid_4 (by decide) (fun q => ?_) (fun q => ?_)
    · have h := if_t h q
      refine j_iconst (v := 1) K d12_isAllPaid_27 (by decide) ?_
      exact mret_z K h rfl hr hlk d12_isAllPaid_28
    · have h := if_f h q
      refine j_aload_n K 0 d12_isAllPaid_7 rfl rfl ?_
      obtain ⟨r1, μ1, e1, h⟩ := bd_e h
      refine mcall_i K (c12_passes_ok l D θ N  μ _ e1) mG_passes mh_passes (by decide) (by decide) rfl (st := []) (Nat.le_of_ble_eq_true rfl) rfl d12_isAllPaid_8 ?_
      refine j_pop K d12_isAllPaid_11 rfl ?_
      refine j_aload_n K 0 d12_isAllPaid_12 rfl rfl ?_
      refine mg_owedFor K d12_isAllPaid_13 ?_
      refine j_if_eq (tgt := 21) K d12_isAllPaid_16 (by decide) (fun q => ?_) (fun q => ?_)
      · have h := if_t h q
        obtain ⟨v2, e2, h⟩ := lt_e h
        refine j_iinc (k := 2) (v := v2) (lv' := [(2, .int v2), (0, .ref θ.1), (1, .int x1)]) K d12_isAllPaid_21 rfl (by rw [e2]; rfl) (by decide) rfl ?_
        refine j_goto (tgt := 2) K d12_isAllPaid_24 (by decide) ?_
        refine j_sub [1, 2, 0] rfl ?_
        exact ih x1 v2 μ1 h
      · have h := if_f h q
        refine j_iconst (v := 0) K d12_isAllPaid_19 (by decide) ?_
        exact mret_z K h rfl hr hlk d12_isAllPaid_20
def p12_isAllPaid (N : Nat) (a1 : Int32) (μ : Mz) : Option (Int32 × Mz) := b12_isAllPaid_2 N N a1 0 μ
set_option maxHeartbeats 4000000 in
set_option maxRecDepth 100000 in
theorem c12_isAllPaid_ok (l : Launch) (D : va_G) (θ : Th) (N : Nat) (a1 : Int32) (μ : Mz) (ρ : Int32 × Mz) (h : p12_isAllPaid N a1 μ = some ρ) : CMi l D θ y12_isAllPaid c12_isAllPaid 3 (some .boolean) 8 [.int a1] μ ρ := by
  intro sz
  refine j_met l [.ref θ.1, .int a1] (by decide +kernel) (Nat.le_of_ble_eq_true rfl) ?_
  intro p e s m args below meth c K hr hlk hnm hs
  generalize va_A (wM θ μ) sz = A at K ⊢
  have K : KM p s m args c c12_isAllPaid 3 y12_isAllPaid (some .boolean) D θ A := K
  show JM p l e s m args below meth c D θ A 8 3 (QMi below args s D θ A ρ) μ [(0, .ref θ.1), (1, .int a1)] [] 0
  unfold p12_isAllPaid at h
  refine j_iconst (v := 0) K d12_isAllPaid_0 (by decide) ?_
  refine j_istore_n (lv' := [(2, .int 0), (0, .ref θ.1), (1, .int a1)]) K d12_isAllPaid_1 rfl (by decide) rfl ?_
  refine j_sub [1, 2, 0] rfl ?_
  exact t12_isAllPaid_2 K hr hlk N ρ N a1 0 μ h
def b12_fillsRest_52 (N : Nat) : Nat → Int32 → Int32 → Int32 → Int32 → Int32 → Mz → Option (Mz)
  | 0, _, _, _, _, _, _ => none
  | n + 1, x1, x2, x4, x5, x6, μ => if x4 ≤ x6 then bo (p12_laysBack N  μ) (fun μ12 => some μ12) else bd (p12_passes N  μ) (fun r13 μ13 => ck (inb x5 128) (bd (p12_getsNow N x1 μ13) (fun r15 μ15 => lt ((ga 13 μ13 x5.toNatClampNeg) + r15) (fun v16 => ck (inb x5 128) (lt (sa 13 (upd (ga 13 μ15) x5.toNatClampNeg v16) μ15) (fun μ18 => lt (x5 + 1) (fun v19 => ck (inb v19 128) (bd (p12_getsNow N x2 μ18) (fun r21 μ21 => lt ((ga 13 μ18 v19.toNatClampNeg) + r21) (fun v22 => ck (inb v19 128) (lt (sa 13 (upd (ga 13 μ21) v19.toNatClampNeg v22) μ21) (fun μ24 => lt (x6 + 1) (fun v25 => b12_fillsRest_52 N n x1 x2 x4 x5 v25 μ24)))))))))))))
set_option maxHeartbeats 4000000 in
set_option maxRecDepth 100000 in
theorem t12_fillsRest_52 {p : Program} {l : Launch} {e : Env} {s : State} {m : MethodId} {args : Array Value} {below : List Frame} {meth : Method} {c : Code} {D : va_G} {θ : Th} {A : Nat → Prop} (K : KM p s m args c c12_fillsRest 7 y12_fillsRest none D θ A) (hr : meth.sig.returnType = none) (hlk : meth.locks = false) (N : Nat) (ρ : Mz) : ∀ (n : Nat) (x1 : Int32) (x2 : Int32) (x4 : Int32) (x5 : Int32) (x6 : Int32) (μ : Mz), b12_fillsRest_52 N n x1 x2 x4 x5 x6 μ = some ρ → JM p l e s m args below meth c D θ A 8 7 (QMv below args s D θ A ρ) μ [(0, .ref θ.1), (1, .int x1), (2, .int x2), (4, .int x4), (5, .int x5), (6, .int x6)] [] 52 := by
  intro n
  induction n with
  | zero =>
    intro x1 x2 x4 x5 x6 μ h
    exact absurd h (by simp [b12_fillsRest_52])
  | succ n ih =>
    intro x1 x2 x4 x5 x6 μ h
    rw [b12_fillsRest_52] at h
    refine j_iload K 5 d12_fillsRest_52 rfl ?_
    refine j_iload K 3 d12_fillsRest_54 rfl ?_
    refine j_icmp_ge (tgt := 102) K d12_fillsRest_56 (by decide) (fun q => ?_) (fun q => ?_)
    · have h := if_t h q
      refine j_aload_n K 0 d12_fillsRest_102 rfl rfl ?_
      obtain ⟨μ12, e12, h⟩ := bo_e h
      refine mcall_v K (c12_laysBack_ok l D θ N  μ _ e12) mG_laysBack mh_laysBack (by decide) (by decide) rfl (st := []) (Nat.le_of_ble_eq_true rfl) rfl d12_fillsRest_103 ?_
      exact mret_v K h hr hlk d12_fillsRest_106
    · have h := if_f h q
      refine j_aload_n K 0 d12_fillsRest_59 rfl rfl ?_
      obtain ⟨r13, μ13, e13, h⟩ := bd_e h
      refine mcall_i K (c12_passes_ok l D θ N  μ _ e13) mG_passes mh_passes (by decide) (by decide) rfl (st := []) (Nat.le_of_ble_eq_true rfl) rfl d12_fillsRest_60 ?_
      refine j_pop K d12_fillsRest_63 rfl ?_
      refine j_aload_n K 0 d12_fillsRest_64 rfl rfl ?_
      refine mg_hasBy K d12_fillsRest_65 ?_
      refine j_iload K 4 d12_fillsRest_68 rfl ?_
      refine j_dup2 K d12_fillsRest_70 rfl rfl ?_
      obtain ⟨q14, h⟩ := ck_e h
      refine ml_hasBy K (inb_e q14) d12_fillsRest_71 ?_
      refine j_aload_n K 0 d12_fillsRest_72 rfl rfl ?_
      refine j_iload_n K 1 d12_fillsRest_73 rfl rfl ?_
      obtain ⟨r15, μ15, e15, h⟩ := bd_e h
      refine mcall_i K (c12_getsNow_ok l D θ N x1 μ13 _ e15) mG_getsNow mh_getsNow (by decide) (by decide) rfl (st := [.int (ga 13 μ13 x5.toNatClampNeg), .int x5, .ref (θ.2.1 15)]) (Nat.le_of_ble_eq_true rfl) rfl d12_fillsRest_74 ?_
      refine j_iadd K d12_fillsRest_77 ?_
      obtain ⟨v16, e16, h⟩ := lt_e h
      refine j_eqi e16 ?_
      obtain ⟨q17, h⟩ := ck_e h
      obtain ⟨μ18, e18, h⟩ := lt_e h
      refine ms_hasBy K (inb_e q17) d12_fillsRest_78 e18 ?_
      refine j_aload_n K 0 d12_fillsRest_79 rfl rfl ?_
      refine mg_hasBy K d12_fillsRest_80 ?_
      refine j_iload K 4 d12_fillsRest_83 rfl ?_
      refine j_iconst (v := 1) K d12_fillsRest_85 (by decide) ?_
      refine j_iadd K d12_fillsRest_86 ?_
      obtain ⟨v19, e19, h⟩ := lt_e h
      refine j_eqi e19 ?_
      refine j_dup2 K d12_fillsRest_87 rfl rfl ?_
      obtain ⟨q20, h⟩ := ck_e h
      refine ml_hasBy K (inb_e q20) d12_fillsRest_88 ?_
      refine j_aload_n K 0 d12_fillsRest_89 rfl rfl ?_
      refine j_iload_n K 2 d12_fillsRest_90 rfl rfl ?_
      obtain ⟨r21, μ21, e21, h⟩ := bd_e h
      refine mcall_i K (c12_getsNow_ok l D θ N x2 μ18 _ e21) mG_getsNow mh_getsNow (by decide) (by decide) rfl (st := [.int (ga 13 μ18 v19.toNatClampNeg), .int v19, .ref (θ.2.1 15)]) (Nat.le_of_ble_eq_true rfl) rfl d12_fillsRest_91 ?_
      refine j_iadd K d12_fillsRest_94 ?_
      obtain ⟨v22, e22, h⟩ := lt_e h
      refine j_eqi e22 ?_
      obtain ⟨q23, h⟩ := ck_e h
      obtain ⟨μ24, e24, h⟩ := lt_e h
      refine ms_hasBy K (inb_e q23) d12_fillsRest_95 e24 ?_
      obtain ⟨v25, e25, h⟩ := lt_e h
      refine j_iinc (k := 5) (v := v25) (lv' := [(6, .int v25), (0, .ref θ.1), (1, .int x1), (2, .int x2), (4, .int x4), (5, .int x5)]) K d12_fillsRest_96 rfl (by rw [e25]; rfl) (by decide) rfl ?_
      refine j_goto (tgt := 52) K d12_fillsRest_99 (by decide) ?_
      refine j_sub [1, 2, 3, 4, 5, 0] rfl ?_
      exact ih x1 x2 x4 x5 v25 μ24 h
def p12_fillsRest (N : Nat) (a1 : Int32) (a2 : Int32) (a3 : Int32) (a4 : Int32) (μ : Mz) : Option (Mz) := lt (2 * a3) (fun v1 => ck (inb v1 128) (lt (sa 13 (upd (ga 13 μ) v1.toNatClampNeg 0) μ) (fun μ3 => ck (inb (v1 + 1) 128) (lt (sa 13 (upd (ga 13 μ3) (v1 + 1).toNatClampNeg 0) μ3) (fun μ5 => lt (a3 / 8) (fun v6 => ck (inb (13 + a1) 129) (lt (sa 7 (upd (ga 7 μ5) (13 + a1).toNatClampNeg v6) μ5) (fun μ8 => lt (a3 - a3 / 8 * 8) (fun v9 => ck (inb (13 + a2) 129) (lt (sa 7 (upd (ga 7 μ8) (13 + a2).toNatClampNeg v9) μ8) (fun μ11 => b12_fillsRest_52 N N a1 a2 a4 v1 0 μ11)))))))))))
set_option maxHeartbeats 4000000 in
set_option maxRecDepth 100000 in
theorem c12_fillsRest_ok (l : Launch) (D : va_G) (θ : Th) (N : Nat) (a1 : Int32) (a2 : Int32) (a3 : Int32) (a4 : Int32) (μ : Mz) (ρ : Mz) (h : p12_fillsRest N a1 a2 a3 a4 μ = some ρ) : CMv l D θ y12_fillsRest c12_fillsRest 7 none 8 [.int a1, .int a2, .int a3, .int a4] μ ρ := by
  intro sz
  refine j_met l [.ref θ.1, .int a1, .int a2, .int a3, .int a4] (by decide +kernel) (Nat.le_of_ble_eq_true rfl) ?_
  intro p e s m args below meth c K hr hlk hnm hs
  generalize va_A (wM θ μ) sz = A at K ⊢
  have K : KM p s m args c c12_fillsRest 7 y12_fillsRest none D θ A := K
  show JM p l e s m args below meth c D θ A 8 7 (QMv below args s D θ A ρ) μ [(0, .ref θ.1), (1, .int a1), (2, .int a2), (3, .int a3), (4, .int a4)] [] 0
  unfold p12_fillsRest at h
  refine j_iconst (v := 2) K d12_fillsRest_0 (by decide) ?_
  refine j_iload_n K 3 d12_fillsRest_1 rfl rfl ?_
  refine j_imul K d12_fillsRest_2 ?_
  obtain ⟨v1, e1, h⟩ := lt_e h
  refine j_eqi e1 ?_
  refine j_istore (lv' := [(5, .int v1), (0, .ref θ.1), (1, .int a1), (2, .int a2), (3, .int a3), (4, .int a4)]) K d12_fillsRest_3 (by decide) rfl ?_
  refine j_aload_n K 1 d12_fillsRest_5 rfl rfl ?_
  refine mg_hasBy K d12_fillsRest_6 ?_
  refine j_iload K 0 d12_fillsRest_9 rfl ?_
  refine j_iconst (v := 0) K d12_fillsRest_11 (by decide) ?_
  obtain ⟨q2, h⟩ := ck_e h
  obtain ⟨μ3, e3, h⟩ := lt_e h
  refine ms_hasBy K (inb_e q2) d12_fillsRest_12 e3 ?_
  refine j_aload_n K 1 d12_fillsRest_13 rfl rfl ?_
  refine mg_hasBy K d12_fillsRest_14 ?_
  refine j_iload K 0 d12_fillsRest_17 rfl ?_
  refine j_iconst (v := 1) K d12_fillsRest_19 (by decide) ?_
  refine j_iadd K d12_fillsRest_20 ?_
  refine j_iconst (v := 0) K d12_fillsRest_21 (by decide) ?_
  obtain ⟨q4, h⟩ := ck_e h
  obtain ⟨μ5, e5, h⟩ := lt_e h
  refine ms_hasBy K (inb_e q4) d12_fillsRest_22 e5 ?_
  refine j_aload_n K 1 d12_fillsRest_23 rfl rfl ?_
  refine mg_said K d12_fillsRest_24 ?_
  refine j_bipush (v := 13) K d12_fillsRest_27 (by decide) ?_
  refine j_iload_n K 2 d12_fillsRest_29 rfl rfl ?_
  refine j_iadd K d12_fillsRest_30 ?_
  refine j_iload_n K 4 d12_fillsRest_31 rfl rfl ?_
  refine j_bipush (v := 8) K d12_fillsRest_32 (by decide) ?_
  refine j_idiv K d12_fillsRest_34 (by decide) ?_
  obtain ⟨v6, e6, h⟩ := lt_e h
  refine j_eqi e6 ?_
  obtain ⟨q7, h⟩ := ck_e h
  obtain ⟨μ8, e8, h⟩ := lt_e h
  refine ms_said K (inb_e q7) d12_fillsRest_35 e8 ?_
  refine j_aload_n K 1 d12_fillsRest_36 rfl rfl ?_
  refine mg_said K d12_fillsRest_37 ?_
  refine j_bipush (v := 13) K d12_fillsRest_40 (by decide) ?_
  refine j_iload_n K 3 d12_fillsRest_42 rfl rfl ?_
  refine j_iadd K d12_fillsRest_43 ?_
  refine j_iload_n K 4 d12_fillsRest_44 rfl rfl ?_
  refine j_bipush (v := 8) K d12_fillsRest_45 (by decide) ?_
  refine j_irem K d12_fillsRest_47 (by decide) ?_
  obtain ⟨v9, e9, h⟩ := lt_e h
  refine j_eqi e9 ?_
  obtain ⟨q10, h⟩ := ck_e h
  obtain ⟨μ11, e11, h⟩ := lt_e h
  refine ms_said K (inb_e q10) d12_fillsRest_48 e11 ?_
  refine j_iconst (v := 0) K d12_fillsRest_49 (by decide) ?_
  refine j_istore (lv' := [(6, .int 0), (5, .int v1), (0, .ref θ.1), (1, .int a1), (2, .int a2), (3, .int a3), (4, .int a4)]) K d12_fillsRest_50 (by decide) rfl ?_
  refine j_sub [2, 3, 4, 6, 1, 0] rfl ?_
  exact t12_fillsRest_52 K hr hlk N ρ N a1 a2 a4 v1 0 μ11 h
def b12_ring_96 (N : Nat) (k86 : Int32 → Int32 → Mz → Option (Int32 × Mz)) : Nat → Int32 → Int32 → Int32 → Mz → Option (Int32 × Mz)
  | 0, _, _, _, _ => none
  | n + 1, x1, x2, x3, μ => if 60 < x3 then lt (x2 + 1) (fun v6 => k86 x1 v6 μ) else bd (p12_areAlike N x2 x3 μ) (fun r7 μ7 => if r7 = 0 then lt (x3 + 1) (fun v8 => b12_ring_96 N k86 n x1 x2 v8 μ7) else if x1 = 0 then some ((ga 7 μ7 (10 : Int32).toNatClampNeg) + x2, μ7) else some (x3 - x2, μ7))
set_option maxHeartbeats 4000000 in
set_option maxRecDepth 100000 in
theorem t12_ring_96 {p : Program} {l : Launch} {e : Env} {s : State} {m : MethodId} {args : Array Value} {below : List Frame} {meth : Method} {c : Code} {D : va_G} {θ : Th} {A : Nat → Prop} (K : KM p s m args c c12_ring 4 y12_ring (some .int) D θ A) (hr : meth.sig.returnType = (some .int)) (hlk : meth.locks = false) (N : Nat) (ρ : Int32 × Mz) (k86 : Int32 → Int32 → Mz → Option (Int32 × Mz)) (hk86 : ∀ (x1 : Int32) (x2 : Int32) (μ : Mz), k86 x1 x2 μ = some ρ → JM p l e s m args below meth c D θ A 8 4 (QMi below args s D θ A ρ) μ [(0, .ref θ.1), (1, .int x1), (2, .int x2)] [] 86) : ∀ (n : Nat) (x1 : Int32) (x2 : Int32) (x3 : Int32) (μ : Mz), b12_ring_96 N k86 n x1 x2 x3 μ = some ρ → JM p l e s m args below meth c D θ A 8 4 (QMi below args s D θ A ρ) μ [(0, .ref θ.1), (1, .int x1), (2, .int x2), (3, .int x3)] [] 96 := by
  intro n
  induction n with
  | zero =>
    intro x1 x2 x3 μ h
    exact absurd h (by simp [b12_ring_96])
  | succ n ih =>
    intro x1 x2 x3 μ h
    rw [b12_ring_96] at h
    refine j_iload_n K 3 d12_ring_96 rfl rfl ?_
    refine j_bipush (v := 60) K d12_ring_97 (by decide) ?_
    refine j_icmp_gt (tgt := 137) K d12_ring_99 (by decide) (fun q => ?_) (fun q => ?_)
    · have h := if_t h q
      obtain ⟨v6, e6, h⟩ := lt_e h
      refine j_iinc (k := 2) (v := v6) (lv' := [(2, .int v6), (0, .ref θ.1), (1, .int x1), (3, .int x3)]) K d12_ring_137 rfl (by rw [e6]; rfl) (by decide) rfl ?_
      refine j_goto (tgt := 86) K d12_ring_140 (by decide) ?_
      refine j_sub [1, 2, 0] rfl ?_
      exact hk86 x1 v6 μ h
    · have h := if_f h q
      refine j_aload_n K 0 d12_ring_102 rfl rfl ?_
      refine j_iload_n K 2 d12_ring_103 rfl rfl ?_
      refine j_iload_n K 3 d12_ring_104 rfl rfl ?_
      obtain ⟨r7, μ7, e7, h⟩ := bd_e h
      refine mcall_i K (c12_areAlike_ok l D θ N x2 x3 μ _ e7) mG_areAlike mh_areAlike (by decide) (by decide) rfl (st := []) (Nat.le_of_ble_eq_true rfl) rfl d12_ring_105 ?_
      refine j_if_eq (tgt := 131) K d12_ring_108 (by decide) (fun q => ?_) (fun q => ?_)
      · have h := if_t h q
        obtain ⟨v8, e8, h⟩ := lt_e h
        refine j_iinc (k := 3) (v := v8) (lv' := [(3, .int v8), (0, .ref θ.1), (1, .int x1), (2, .int x2)]) K d12_ring_131 rfl (by rw [e8]; rfl) (by decide) rfl ?_
        refine j_goto (tgt := 96) K d12_ring_134 (by decide) ?_
        refine j_sub [1, 2, 3, 0] rfl ?_
        exact ih x1 x2 v8 μ7 h
      · have h := if_f h q
        refine j_iload_n K 1 d12_ring_111 rfl rfl ?_
        refine j_if_ne (tgt := 127) K d12_ring_112 (by decide) (fun q => ?_) (fun q => ?_)
        · have h := if_f h q
          refine j_iload_n K 3 d12_ring_127 rfl rfl ?_
          refine j_iload_n K 2 d12_ring_128 rfl rfl ?_
          refine j_isub K d12_ring_129 ?_
          exact mret_i K h hr hlk d12_ring_130
        · have h := if_t h q
          refine j_aload_n K 0 d12_ring_115 rfl rfl ?_
          refine mg_said K d12_ring_116 ?_
          refine j_bipush (v := 10) K d12_ring_119 (by decide) ?_
          refine ml_said K (inb_e (by decide)) d12_ring_121 ?_
          refine j_iload_n K 2 d12_ring_122 rfl rfl ?_
          refine j_iadd K d12_ring_123 ?_
          refine j_goto (tgt := 130) K d12_ring_124 (by decide) ?_
          exact mret_i K h hr hlk d12_ring_130
def b12_ring_86 (N : Nat) : Nat → Int32 → Int32 → Mz → Option (Int32 × Mz)
  | 0, _, _, _ => none
  | n + 1, x1, x2, μ => if 60 ≤ x2 then some ((-2), μ) else lt (x2 + 1) (fun v5 => b12_ring_96 N (b12_ring_86 N n) N x1 x2 v5 μ)
set_option maxHeartbeats 4000000 in
set_option maxRecDepth 100000 in
theorem t12_ring_86 {p : Program} {l : Launch} {e : Env} {s : State} {m : MethodId} {args : Array Value} {below : List Frame} {meth : Method} {c : Code} {D : va_G} {θ : Th} {A : Nat → Prop} (K : KM p s m args c c12_ring 4 y12_ring (some .int) D θ A) (hr : meth.sig.returnType = (some .int)) (hlk : meth.locks = false) (N : Nat) (ρ : Int32 × Mz) : ∀ (n : Nat) (x1 : Int32) (x2 : Int32) (μ : Mz), b12_ring_86 N n x1 x2 μ = some ρ → JM p l e s m args below meth c D θ A 8 4 (QMi below args s D θ A ρ) μ [(0, .ref θ.1), (1, .int x1), (2, .int x2)] [] 86 := by
  intro n
  induction n with
  | zero =>
    intro x1 x2 μ h
    exact absurd h (by simp [b12_ring_86])
  | succ n ih =>
    intro x1 x2 μ h
    rw [b12_ring_86] at h
    refine j_iload_n K 2 d12_ring_86 rfl rfl ?_
    refine j_bipush (v := 60) K d12_ring_87 (by decide) ?_
    refine j_icmp_ge (tgt := 143) K d12_ring_89 (by decide) (fun q => ?_) (fun q => ?_)
    · have h := if_t h q
      refine j_bipush (v := (-2)) K d12_ring_143 (by decide) ?_
      exact mret_i K h hr hlk d12_ring_145
    · have h := if_f h q
      refine j_iload_n K 2 d12_ring_92 rfl rfl ?_
      refine j_iconst (v := 1) K d12_ring_93 (by decide) ?_
      refine j_iadd K d12_ring_94 ?_
      obtain ⟨v5, e5, h⟩ := lt_e h
      refine j_eqi e5 ?_
      refine j_istore_n (lv' := [(3, .int v5), (0, .ref θ.1), (1, .int x1), (2, .int x2)]) K d12_ring_95 rfl (by decide) rfl ?_
      refine j_sub [1, 2, 3, 0] rfl ?_
      exact t12_ring_96 K hr hlk N ρ (b12_ring_86 N n) ih N x1 x2 v5 μ h
def b12_ring_33 (N : Nat) (k25 : Int32 → Int32 → Mz → Option (Int32 × Mz)) : Nat → Int32 → Int32 → Int32 → Mz → Option (Int32 × Mz)
  | 0, _, _, _, _ => none
  | n + 1, x1, x2, x3, μ => if (ga 7 μ (3 : Int32).toNatClampNeg) ≤ x3 then bd (p12_passes N  μ) (fun r9 μ9 => lt (x2 + 1) (fun v10 => k25 x1 v10 μ9)) else lt (13 + x3) (fun v11 => ck (inb v11 129) (lt (ga 7 μ v11.toNatClampNeg) (fun v13 => ck (inb ((10 * x2) + x3) 610) (lt (sa 14 (upd (ga 14 μ) ((10 * x2) + x3).toNatClampNeg v13) μ) (fun μ15 => lt (x3 + 1) (fun v16 => b12_ring_33 N k25 n x1 x2 v16 μ15))))))
set_option maxHeartbeats 4000000 in
set_option maxRecDepth 100000 in
theorem t12_ring_33 {p : Program} {l : Launch} {e : Env} {s : State} {m : MethodId} {args : Array Value} {below : List Frame} {meth : Method} {c : Code} {D : va_G} {θ : Th} {A : Nat → Prop} (K : KM p s m args c c12_ring 4 y12_ring (some .int) D θ A) (hr : meth.sig.returnType = (some .int)) (hlk : meth.locks = false) (N : Nat) (ρ : Int32 × Mz) (k25 : Int32 → Int32 → Mz → Option (Int32 × Mz)) (hk25 : ∀ (x1 : Int32) (x2 : Int32) (μ : Mz), k25 x1 x2 μ = some ρ → JM p l e s m args below meth c D θ A 8 4 (QMi below args s D θ A ρ) μ [(0, .ref θ.1), (1, .int x1), (2, .int x2)] [] 25) : ∀ (n : Nat) (x1 : Int32) (x2 : Int32) (x3 : Int32) (μ : Mz), b12_ring_33 N k25 n x1 x2 x3 μ = some ρ → JM p l e s m args below meth c D θ A 8 4 (QMi below args s D θ A ρ) μ [(0, .ref θ.1), (1, .int x1), (2, .int x2), (3, .int x3)] [] 33 := by
  intro n
  induction n with
  | zero =>
    intro x1 x2 x3 μ h
    exact absurd h (by simp [b12_ring_33])
  | succ n ih =>
    intro x1 x2 x3 μ h
    rw [b12_ring_33] at h
    refine j_iload_n K 3 d12_ring_33 rfl rfl ?_
    refine j_aload_n K 0 d12_ring_34 rfl rfl ?_
    refine mg_said K d12_ring_35 ?_
    refine j_iconst (v := 3) K d12_ring_38 (by decide) ?_
    refine ml_said K (inb_e (by decide)) d12_ring_39 ?_
    refine j_icmp_ge (tgt := 69) K d12_ring_40 (by decide) (fun q => ?_) (fun q => ?_)
    · have h := if_t h q
      refine j_aload_n K 0 d12_ring_69 rfl rfl ?_
      obtain ⟨r9, μ9, e9, h⟩ := bd_e h
      refine mcall_i K (c12_passes_ok l D θ N  μ _ e9) mG_passes mh_passes (by decide) (by decide) rfl (st := []) (Nat.le_of_ble_eq_true rfl) rfl d12_ring_70 ?_
      refine j_pop K d12_ring_73 rfl ?_
      obtain ⟨v10, e10, h⟩ := lt_e h
      refine j_iinc (k := 2) (v := v10) (lv' := [(2, .int v10), (0, .ref θ.1), (1, .int x1), (3, .int x3)]) K d12_ring_74 rfl (by rw [e10]; rfl) (by decide) rfl ?_
      refine j_goto (tgt := 25) K d12_ring_77 (by decide) ?_
      refine j_sub [1, 2, 0] rfl ?_
      exact hk25 x1 v10 μ9 h
    · have h := if_f h q
      refine j_aload_n K 0 d12_ring_43 rfl rfl ?_
      refine mg_putThen K d12_ring_44 ?_
      refine j_bipush (v := 10) K d12_ring_47 (by decide) ?_
      refine j_iload_n K 2 d12_ring_49 rfl rfl ?_
      refine j_imul K d12_ring_50 ?_
      refine j_iload_n K 3 d12_ring_51 rfl rfl ?_
      refine j_iadd K d12_ring_52 ?_
      refine j_aload_n K 0 d12_ring_53 rfl rfl ?_
      refine mg_said K d12_ring_54 ?_
      refine j_bipush (v := 13) K d12_ring_57 (by decide) ?_
      refine j_iload_n K 3 d12_ring_59 rfl rfl ?_
      refine j_iadd K d12_ring_60 ?_
      obtain ⟨v11, e11, h⟩ := lt_e h
      refine j_eqi e11 ?_
      obtain ⟨q12, h⟩ := ck_e h
      refine ml_said K (inb_e q12) d12_ring_61 ?_
      obtain ⟨v13, e13, h⟩ := lt_e h
      refine j_eqi e13 ?_
      obtain ⟨q14, h⟩ := ck_e h
      obtain ⟨μ15, e15, h⟩ := lt_e h
      refine ms_putThen K (inb_e q14) d12_ring_62 e15 ?_
      obtain ⟨v16, e16, h⟩ := lt_e h
      refine j_iinc (k := 3) (v := v16) (lv' := [(3, .int v16), (0, .ref θ.1), (1, .int x1), (2, .int x2)]) K d12_ring_63 rfl (by rw [e16]; rfl) (by decide) rfl ?_
      refine j_goto (tgt := 33) K d12_ring_66 (by decide) ?_
      refine j_sub [1, 2, 3, 0] rfl ?_
      exact ih x1 x2 v16 μ15 h
def b12_ring_25 (N : Nat) : Nat → Int32 → Int32 → Mz → Option (Int32 × Mz)
  | 0, _, _, _ => none
  | n + 1, x1, x2, μ => if 60 < x2 then bo (p12_laysBack N  μ) (fun μ4 => b12_ring_86 N N x1 0 μ4) else b12_ring_33 N (b12_ring_25 N n) N x1 x2 0 μ
set_option maxHeartbeats 4000000 in
set_option maxRecDepth 100000 in
theorem t12_ring_25 {p : Program} {l : Launch} {e : Env} {s : State} {m : MethodId} {args : Array Value} {below : List Frame} {meth : Method} {c : Code} {D : va_G} {θ : Th} {A : Nat → Prop} (K : KM p s m args c c12_ring 4 y12_ring (some .int) D θ A) (hr : meth.sig.returnType = (some .int)) (hlk : meth.locks = false) (N : Nat) (ρ : Int32 × Mz) : ∀ (n : Nat) (x1 : Int32) (x2 : Int32) (μ : Mz), b12_ring_25 N n x1 x2 μ = some ρ → JM p l e s m args below meth c D θ A 8 4 (QMi below args s D θ A ρ) μ [(0, .ref θ.1), (1, .int x1), (2, .int x2)] [] 25 := by
  intro n
  induction n with
  | zero =>
    intro x1 x2 μ h
    exact absurd h (by simp [b12_ring_25])
  | succ n ih =>
    intro x1 x2 μ h
    rw [b12_ring_25] at h
    refine j_iload_n K 2 d12_ring_25 rfl rfl ?_
    refine j_bipush (v := 60) K d12_ring_26 (by decide) ?_
    refine j_icmp_gt (tgt := 80) K d12_ring_28 (by decide) (fun q => ?_) (fun q => ?_)
    · have h := if_t h q
      refine j_aload_n K 0 d12_ring_80 rfl rfl ?_
      obtain ⟨μ4, e4, h⟩ := bo_e h
      refine mcall_v K (c12_laysBack_ok l D θ N  μ _ e4) mG_laysBack mh_laysBack (by decide) (by decide) rfl (st := []) (Nat.le_of_ble_eq_true rfl) rfl d12_ring_81 ?_
      refine j_iconst (v := 0) K d12_ring_84 (by decide) ?_
      refine j_istore_n (lv' := [(2, .int 0), (0, .ref θ.1), (1, .int x1)]) K d12_ring_85 rfl (by decide) rfl ?_
      refine j_sub [1, 2, 0] rfl ?_
      exact t12_ring_86 K hr hlk N ρ N x1 0 μ4 h
    · have h := if_f h q
      refine j_iconst (v := 0) K d12_ring_31 (by decide) ?_
      refine j_istore_n (lv' := [(3, .int 0), (0, .ref θ.1), (1, .int x1), (2, .int x2)]) K d12_ring_32 rfl (by decide) rfl ?_
      refine j_sub [1, 2, 3, 0] rfl ?_
      exact t12_ring_33 K hr hlk N ρ (b12_ring_25 N n) ih N x1 x2 0 μ h
def p12_ring (N : Nat) (a1 : Int32) (μ : Mz) : Option (Int32 × Mz) := bd (p12_isBook N  μ) (fun r1 μ1 => if r1 = 0 then some ((-1), μ1) else bo (p12_in N (a1.toInt64) 0 1) (fun r2 => if r2 = 0 then some ((-1), μ1) else bo (p12_keeps N  μ1) (fun μ3 => b12_ring_25 N N a1 0 μ3)))
set_option maxHeartbeats 4000000 in
set_option maxRecDepth 100000 in
theorem c12_ring_ok (l : Launch) (D : va_G) (θ : Th) (N : Nat) (a1 : Int32) (μ : Mz) (ρ : Int32 × Mz) (h : p12_ring N a1 μ = some ρ) : CMi l D θ y12_ring c12_ring 4 (some .int) 8 [.int a1] μ ρ := by
  intro sz
  refine j_met l [.ref θ.1, .int a1] (by decide +kernel) (Nat.le_of_ble_eq_true rfl) ?_
  intro p e s m args below meth c K hr hlk hnm hs
  generalize va_A (wM θ μ) sz = A at K ⊢
  have K : KM p s m args c c12_ring 4 y12_ring (some .int) D θ A := K
  show JM p l e s m args below meth c D θ A 8 4 (QMi below args s D θ A ρ) μ [(0, .ref θ.1), (1, .int a1)] [] 0
  unfold p12_ring at h
  refine j_aload_n K 0 d12_ring_0 rfl rfl ?_
  obtain ⟨r1, μ1, e1, h⟩ := bd_e h
  refine mcall_i K (c12_isBook_ok l D θ N  μ _ e1) mG_isBook mh_isBook (by decide) (by decide) rfl (st := []) (Nat.le_of_ble_eq_true rfl) rfl d12_ring_1 ?_
  refine j_if_eq (tgt := 17) K d12_ring_4 (by decide) (fun q => ?_) (fun q => ?_)
  · have h := if_t h q
    refine j_iconst (v := (-1)) K d12_ring_17 (by decide) ?_
    exact mret_i K h hr hlk d12_ring_18
  · have h := if_f h q
    refine j_iload_n K 1 d12_ring_7 rfl rfl ?_
    refine j_i2l K d12_ring_8 ?_
    refine j_lconst (v := 0) K d12_ring_9 (by decide) ?_
    refine j_lconst (v := 1) K d12_ring_10 (by decide) ?_
    obtain ⟨r2, e2, h⟩ := bo_e h
    refine mcalls_i K (c12_in_ok l D θ N (a1.toInt64) 0 1 _ e2) mG_in mh_in (by decide) (by decide) rfl (st := []) (Nat.le_of_ble_eq_true rfl) rfl d12_ring_11 ?_
    refine j_if_ne (tgt := 19) K d12_ring_14 (by decide) (fun q => ?_) (fun q => ?_)
    · have h := if_f h q
      refine j_aload_n K 0 d12_ring_19 rfl rfl ?_
      obtain ⟨μ3, e3, h⟩ := bo_e h
      refine mcall_v K (c12_keeps_ok l D θ N  μ1 _ e3) mG_keeps mh_keeps (by decide) (by decide) rfl (st := []) (Nat.le_of_ble_eq_true rfl) rfl d12_ring_20 ?_
      refine j_iconst (v := 0) K d12_ring_23 (by decide) ?_
      refine j_istore_n (lv' := [(2, .int 0), (0, .ref θ.1), (1, .int a1)]) K d12_ring_24 rfl (by decide) rfl ?_
      refine j_sub [1, 2, 0] rfl ?_
      exact t12_ring_25 K hr hlk N ρ N a1 0 μ3 h
    · have h := if_t h q
      refine j_iconst (v := (-1)) K d12_ring_17 (by decide) ?_
      exact mret_i K h hr hlk d12_ring_18
def b12_areAllSo_39 (N : Nat) (k5 : Int32 → Int32 → Int32 → Int32 → Mz → Option (Int32 × Mz)) : Nat → Int32 → Int32 → Int32 → Int32 → Int32 → Mz → Option (Int32 × Mz)
  | 0, _, _, _, _, _, _ => none
  | n + 1, x1, x2, x3, x4, x5, μ => if (ga 7 μ (3 : Int32).toNatClampNeg) ≤ x5 then lt (x4 + 1) (fun v3 => k5 x1 x2 x3 v3 μ) else if x4 = x2 then lt (13 + x5) (fun v5 => ck (inb v5 129) (lt (ga 7 μ v5.toNatClampNeg) (fun v7 => ck (inb ((10 * x1) + x5) 70) (lt (sa 16 (upd (ga 16 μ) ((10 * x1) + x5).toNatClampNeg v7) μ) (fun μ9 => lt (x5 + 1) (fun v10 => b12_areAllSo_39 N k5 n x1 x2 x3 x4 v10 μ9)))))) else lt (x4 + 1) (fun v4 => k5 x1 x2 x3 v4 μ)
set_option maxHeartbeats 4000000 in
set_option maxRecDepth 100000 in
theorem t12_areAllSo_39 {p : Program} {l : Launch} {e : Env} {s : State} {m : MethodId} {args : Array Value} {below : List Frame} {meth : Method} {c : Code} {D : va_G} {θ : Th} {A : Nat → Prop} (K : KM p s m args c c12_areAllSo 6 y12_areAllSo (some .boolean) D θ A) (hr : meth.sig.returnType = (some .boolean)) (hlk : meth.locks = false) (N : Nat) (ρ : Int32 × Mz) (k5 : Int32 → Int32 → Int32 → Int32 → Mz → Option (Int32 × Mz)) (hk5 : ∀ (x1 : Int32) (x2 : Int32) (x3 : Int32) (x4 : Int32) (μ : Mz), k5 x1 x2 x3 x4 μ = some ρ → JM p l e s m args below meth c D θ A 8 6 (QMi below args s D θ A ρ) μ [(0, .ref θ.1), (1, .int x1), (2, .int x2), (3, .int x3), (4, .int x4)] [] 5) : ∀ (n : Nat) (x1 : Int32) (x2 : Int32) (x3 : Int32) (x4 : Int32) (x5 : Int32) (μ : Mz), b12_areAllSo_39 N k5 n x1 x2 x3 x4 x5 μ = some ρ → JM p l e s m args below meth c D θ A 8 6 (QMi below args s D θ A ρ) μ [(0, .ref θ.1), (1, .int x1), (2, .int x2), (3, .int x3), (4, .int x4), (5, .int x5)] [] 39 := by
  intro n
  induction n with
  | zero =>
    intro x1 x2 x3 x4 x5 μ h
    exact absurd h (by simp [b12_areAllSo_39])
  | succ n ih =>
    intro x1 x2 x3 x4 x5 μ h
    rw [b12_areAllSo_39] at h
    refine j_iload K 5 d12_areAllSo_39 rfl ?_
    refine j_aload_n K 0 d12_areAllSo_41 rfl rfl ?_
    refine mg_said K d12_areAllSo_42 ?_
    refine j_iconst (v := 3) K d12_areAllSo_45 (by decide) ?_
    refine ml_said K (inb_e (by decide)) d12_areAllSo_46 ?_
    refine j_icmp_ge (tgt := 84) K d12_areAllSo_47 (by decide) (fun q => ?_) (fun q => ?_)
    · have h := if_t h q
      obtain ⟨v3, e3, h⟩ := lt_e h
      refine j_iinc (k := 4) (v := v3) (lv' := [(4, .int v3), (0, .ref θ.1), (1, .int x1), (2, .int x2), (3, .int x3), (5, .int x5)]) K d12_areAllSo_84 rfl (by rw [e3]; rfl) (by decide) rfl ?_
      refine j_goto (tgt := 5) K d12_areAllSo_87 (by decide) ?_
      refine j_sub [1, 2, 3, 4, 0] rfl ?_
      exact hk5 x1 x2 x3 v3 μ h
    · have h := if_f h q
      refine j_iload K 4 d12_areAllSo_50 rfl ?_
      refine j_iload_n K 2 d12_areAllSo_52 rfl rfl ?_
      refine j_icmp_ne (tgt := 84) K d12_areAllSo_53 (by decide) (fun q => ?_) (fun q => ?_)
      · have h := if_f h q
        obtain ⟨v4, e4, h⟩ := lt_e h
        refine j_iinc (k := 4) (v := v4) (lv' := [(4, .int v4), (0, .ref θ.1), (1, .int x1), (2, .int x2), (3, .int x3), (5, .int x5)]) K d12_areAllSo_84 rfl (by rw [e4]; rfl) (by decide) rfl ?_
        refine j_goto (tgt := 5) K d12_areAllSo_87 (by decide) ?_
        refine j_sub [1, 2, 3, 4, 0] rfl ?_
        exact hk5 x1 x2 x3 v4 μ h
      · have h := if_t h q
        refine j_aload_n K 0 d12_areAllSo_56 rfl rfl ?_
        refine mg_rulePut K d12_areAllSo_57 ?_
        refine j_bipush (v := 10) K d12_areAllSo_60 (by decide) ?_
        refine j_iload_n K 1 d12_areAllSo_62 rfl rfl ?_
        refine j_imul K d12_areAllSo_63 ?_
        refine j_iload K 5 d12_areAllSo_64 rfl ?_
        refine j_iadd K d12_areAllSo_66 ?_
        refine j_aload_n K 0 d12_areAllSo_67 rfl rfl ?_
        refine mg_said K d12_areAllSo_68 ?_
        refine j_bipush (v := 13) K d12_areAllSo_71 (by decide) ?_
        refine j_iload K 5 d12_areAllSo_73 rfl ?_
        refine j_iadd K d12_areAllSo_75 ?_
        obtain ⟨v5, e5, h⟩ := lt_e h
        refine j_eqi e5 ?_
        obtain ⟨q6, h⟩ := ck_e h
        refine ml_said K (inb_e q6) d12_areAllSo_76 ?_
        obtain ⟨v7, e7, h⟩ := lt_e h
        refine j_eqi e7 ?_
        obtain ⟨q8, h⟩ := ck_e h
        obtain ⟨μ9, e9, h⟩ := lt_e h
        refine ms_rulePut K (inb_e q8) d12_areAllSo_77 e9 ?_
        obtain ⟨v10, e10, h⟩ := lt_e h
        refine j_iinc (k := 5) (v := v10) (lv' := [(5, .int v10), (0, .ref θ.1), (1, .int x1), (2, .int x2), (3, .int x3), (4, .int x4)]) K d12_areAllSo_78 rfl (by rw [e10]; rfl) (by decide) rfl ?_
        refine j_goto (tgt := 39) K d12_areAllSo_81 (by decide) ?_
        refine j_sub [1, 2, 3, 4, 5, 0] rfl ?_
        exact ih x1 x2 x3 x4 v10 μ9 h
def b12_areAllSo_5 (N : Nat) : Nat → Int32 → Int32 → Int32 → Int32 → Mz → Option (Int32 × Mz)
  | 0, _, _, _, _, _ => none
  | n + 1, x1, x2, x3, x4, μ => if 60 < x4 then ck (b01 x3) (some (x3, μ)) else bd (p12_passes N  μ) (fun r2 μ2 => if x3 = 0 then b12_areAllSo_39 N (b12_areAllSo_5 N n) N x1 x2 0 x4 0 μ2 else bd (p12_areNotesSo N x4 μ2) (fun r11 μ11 => if r11 = 0 then b12_areAllSo_39 N (b12_areAllSo_5 N n) N x1 x2 0 x4 0 μ11 else b12_areAllSo_39 N (b12_areAllSo_5 N n) N x1 x2 1 x4 0 μ11))
set_option maxHeartbeats 4000000 in
set_option maxRecDepth 100000 in
theorem t12_areAllSo_5 {p : Program} {l : Launch} {e : Env} {s : State} {m : MethodId} {args : Array Value} {below : List Frame} {meth : Method} {c : Code} {D : va_G} {θ : Th} {A : Nat → Prop} (K : KM p s m args c c12_areAllSo 6 y12_areAllSo (some .boolean) D θ A) (hr : meth.sig.returnType = (some .boolean)) (hlk : meth.locks = false) (N : Nat) (ρ : Int32 × Mz) : ∀ (n : Nat) (x1 : Int32) (x2 : Int32) (x3 : Int32) (x4 : Int32) (μ : Mz), b12_areAllSo_5 N n x1 x2 x3 x4 μ = some ρ → JM p l e s m args below meth c D θ A 8 6 (QMi below args s D θ A ρ) μ [(0, .ref θ.1), (1, .int x1), (2, .int x2), (3, .int x3), (4, .int x4)] [] 5 := by
  intro n
  induction n with
  | zero =>
    intro x1 x2 x3 x4 μ h
    exact absurd h (by simp [b12_areAllSo_5])
  | succ n ih =>
    intro x1 x2 x3 x4 μ h
    rw [b12_areAllSo_5] at h
    refine j_iload K 4 d12_areAllSo_5 rfl ?_
    refine j_bipush (v := 60) K d12_areAllSo_7 (by decide) ?_
    refine j_icmp_gt (tgt := 90) K d12_areAllSo_9 (by decide) (fun q => ?_) (fun q => ?_)
    · have h := if_t h q
      refine j_iload_n K 3 d12_areAllSo_90 rfl rfl ?_
      obtain ⟨q1, h⟩ := ck_e h
      exact mret_z K h (b01_e q1) hr hlk d12_areAllSo_91
    · have h := if_f h q
      refine j_aload_n K 0 d12_areAllSo_12 rfl rfl ?_
      obtain ⟨r2, μ2, e2, h⟩ := bd_e h
      refine mcall_i K (c12_passes_ok l D θ N  μ _ e2) mG_passes mh_passes (by decide) (by decide) rfl (st := []) (Nat.le_of_ble_eq_true rfl) rfl d12_areAllSo_13 ?_
      refine j_pop K d12_areAllSo_16 rfl ?_
      refine j_iload_n K 3 d12_areAllSo_17 rfl rfl ?_
      refine j_if_eq (tgt := 34) K d12_areAllSo_18 (by decide) (fun q => ?_) (fun q => ?_)
      · have h := if_t h q
        refine j_iconst (v := 0) K d12_areAllSo_34 (by decide) ?_
        refine j_istore_n (lv' := [(3, .int 0), (0, .ref θ.1), (1, .int x1), (2, .int x2), (4, .int x4)]) K d12_areAllSo_35 rfl (by decide) rfl ?_
        refine j_iconst (v := 0) K d12_areAllSo_36 (by decide) ?_
        refine j_istore (lv' := [(5, .int 0), (3, .int 0), (0, .ref θ.1), (1, .int x1), (2, .int x2), (4, .int x4)]) K d12_areAllSo_37 (by decide) rfl ?_
        refine j_sub [2, 3, 4, 1, 5, 0] rfl ?_
        exact t12_areAllSo_39 K hr hlk N ρ (b12_areAllSo_5 N n) ih N x1 x2 0 x4 0 μ2 h
      · have h := if_f h q
        refine j_aload_n K 0 d12_areAllSo_21 rfl rfl ?_
        refine j_iload K 4 d12_areAllSo_22 rfl ?_
        obtain ⟨r11, μ11, e11, h⟩ := bd_e h
        refine mcall_i K (c12_areNotesSo_ok l D θ N x4 μ2 _ e11) mG_areNotesSo mh_areNotesSo (by decide) (by decide) rfl (st := []) (Nat.le_of_ble_eq_true rfl) rfl d12_areAllSo_24 ?_
        refine j_if_eq (tgt := 34) K d12_areAllSo_27 (by decide) (fun q => ?_) (fun q => ?_)
        · have h := if_t h q
          refine j_iconst (v := 0) K d12_areAllSo_34 (by decide) ?_
          refine j_istore_n (lv' := [(3, .int 0), (0, .ref θ.1), (1, .int x1), (2, .int x2), (4, .int x4)]) K d12_areAllSo_35 rfl (by decide) rfl ?_
          refine j_iconst (v := 0) K d12_areAllSo_36 (by decide) ?_
          refine j_istore (lv' := [(5, .int 0), (3, .int 0), (0, .ref θ.1), (1, .int x1), (2, .int x2), (4, .int x4)]) K d12_areAllSo_37 (by decide) rfl ?_
          refine j_sub [2, 3, 4, 1, 5, 0] rfl ?_
          exact t12_areAllSo_39 K hr hlk N ρ (b12_areAllSo_5 N n) ih N x1 x2 0 x4 0 μ11 h
        · have h := if_f h q
          refine j_iconst (v := 1) K d12_areAllSo_30 (by decide) ?_
          refine j_goto (tgt := 35) K d12_areAllSo_31 (by decide) ?_
          refine j_istore_n (lv' := [(3, .int 1), (0, .ref θ.1), (1, .int x1), (2, .int x2), (4, .int x4)]) K d12_areAllSo_35 rfl (by decide) rfl ?_
          refine j_iconst (v := 0) K d12_areAllSo_36 (by decide) ?_
          refine j_istore (lv' := [(5, .int 0), (3, .int 1), (0, .ref θ.1), (1, .int x1), (2, .int x2), (4, .int x4)]) K d12_areAllSo_37 (by decide) rfl ?_
          refine j_sub [2, 3, 4, 1, 5, 0] rfl ?_
          exact t12_areAllSo_39 K hr hlk N ρ (b12_areAllSo_5 N n) ih N x1 x2 1 x4 0 μ11 h
def p12_areAllSo (N : Nat) (a1 : Int32) (a2 : Int32) (μ : Mz) : Option (Int32 × Mz) := b12_areAllSo_5 N N a1 a2 1 0 μ
set_option maxHeartbeats 4000000 in
set_option maxRecDepth 100000 in
theorem c12_areAllSo_ok (l : Launch) (D : va_G) (θ : Th) (N : Nat) (a1 : Int32) (a2 : Int32) (μ : Mz) (ρ : Int32 × Mz) (h : p12_areAllSo N a1 a2 μ = some ρ) : CMi l D θ y12_areAllSo c12_areAllSo 6 (some .boolean) 8 [.int a1, .int a2] μ ρ := by
  intro sz
  refine j_met l [.ref θ.1, .int a1, .int a2] (by decide +kernel) (Nat.le_of_ble_eq_true rfl) ?_
  intro p e s m args below meth c K hr hlk hnm hs
  generalize va_A (wM θ μ) sz = A at K ⊢
  have K : KM p s m args c c12_areAllSo 6 y12_areAllSo (some .boolean) D θ A := K
  show JM p l e s m args below meth c D θ A 8 6 (QMi below args s D θ A ρ) μ [(0, .ref θ.1), (1, .int a1), (2, .int a2)] [] 0
  unfold p12_areAllSo at h
  refine j_iconst (v := 1) K d12_areAllSo_0 (by decide) ?_
  refine j_istore_n (lv' := [(3, .int 1), (0, .ref θ.1), (1, .int a1), (2, .int a2)]) K d12_areAllSo_1 rfl (by decide) rfl ?_
  refine j_iconst (v := 0) K d12_areAllSo_2 (by decide) ?_
  refine j_istore (lv' := [(4, .int 0), (3, .int 1), (0, .ref θ.1), (1, .int a1), (2, .int a2)]) K d12_areAllSo_3 (by decide) rfl ?_
  refine j_sub [2, 3, 4, 1, 0] rfl ?_
  exact t12_areAllSo_5 K hr hlk N ρ N a1 a2 1 0 μ h
def b12_slips_87 (N : Nat) (k78 : Int32 → Int32 → Int32 → Int32 → Int32 → Int32 → Int32 → Mz → Option (Int32 × Mz)) : Nat → Int32 → Int32 → Int32 → Int32 → Int32 → Int32 → Int32 → Int32 → Mz → Option (Int32 × Mz)
  | 0, _, _, _, _, _, _, _, _, _ => none
  | n + 1, x1, x2, x3, x4, x5, x6, x7, x8, μ => if x2 ≤ x8 then bd (p12_wrongOnes N  μ) (fun r8 μ8 => bo (p12_bits N r8) (fun r9 => lt (x5 + r9) (fun v10 => lt (x6 + (ga 7 μ8 (12 : Int32).toNatClampNeg)) (fun v11 => bo (p12_laysBack N  μ8) (fun μ12 => lt (x7 + 1) (fun v13 => k78 x1 x2 x3 x4 v10 v11 v13 μ12)))))) else bd (p12_draw N 100 μ) (fun r14 μ14 => if x3 ≤ r14 then bd (p12_passes N  μ14) (fun r15 μ15 => lt (x8 + 1) (fun v16 => b12_slips_87 N k78 n x1 x2 x3 x4 x5 x6 x7 v16 μ15)) else if (ga 7 μ14 (3 : Int32).toNatClampNeg) ≤ 0 then bd (p12_passes N  μ14) (fun r17 μ17 => lt (x8 + 1) (fun v18 => b12_slips_87 N k78 n x1 x2 x3 x4 x5 x6 x7 v18 μ17)) else bo (p12_slipsOne N  μ14) (fun μ19 => bd (p12_passes N  μ19) (fun r20 μ20 => lt (x8 + 1) (fun v21 => b12_slips_87 N k78 n x1 x2 x3 x4 x5 x6 x7 v21 μ20))))
set_option maxHeartbeats 4000000 in
set_option maxRecDepth 100000 in
theorem t12_slips_87 {p : Program} {l : Launch} {e : Env} {s : State} {m : MethodId} {args : Array Value} {below : List Frame} {meth : Method} {c : Code} {D : va_G} {θ : Th} {A : Nat → Prop} (K : KM p s m args c c12_slips 9 y12_slips (some .int) D θ A) (hr : meth.sig.returnType = (some .int)) (hlk : meth.locks = false) (N : Nat) (ρ : Int32 × Mz) (k78 : Int32 → Int32 → Int32 → Int32 → Int32 → Int32 → Int32 → Mz → Option (Int32 × Mz)) (hk78 : ∀ (x1 : Int32) (x2 : Int32) (x3 : Int32) (x4 : Int32) (x5 : Int32) (x6 : Int32) (x7 : Int32) (μ : Mz), k78 x1 x2 x3 x4 x5 x6 x7 μ = some ρ → JM p l e s m args below meth c D θ A 8 9 (QMi below args s D θ A ρ) μ [(0, .ref θ.1), (1, .int x1), (2, .int x2), (3, .int x3), (4, .int x4), (5, .int x5), (6, .int x6), (7, .int x7)] [] 78) : ∀ (n : Nat) (x1 : Int32) (x2 : Int32) (x3 : Int32) (x4 : Int32) (x5 : Int32) (x6 : Int32) (x7 : Int32) (x8 : Int32) (μ : Mz), b12_slips_87 N k78 n x1 x2 x3 x4 x5 x6 x7 x8 μ = some ρ → JM p l e s m args below meth c D θ A 8 9 (QMi below args s D θ A ρ) μ [(0, .ref θ.1), (1, .int x1), (2, .int x2), (3, .int x3), (4, .int x4), (5, .int x5), (6, .int x6), (7, .int x7), (8, .int x8)] [] 87 := by
  intro n
  induction n with
  | zero =>
    intro x1 x2 x3 x4 x5 x6 x7 x8 μ h
    exact absurd h (by simp [b12_slips_87])
  | succ n ih =>
    intro x1 x2 x3 x4 x5 x6 x7 x8 μ h
    rw [b12_slips_87] at h
    refine j_iload K 8 d12_slips_87 rfl ?_
    refine j_iload_n K 2 d12_slips_89 rfl rfl ?_
    refine j_icmp_ge (tgt := 127) K d12_slips_90 (by decide) (fun q => ?_) (fun q => ?_)
    · have h := if_t h q
      refine j_iload K 5 d12_slips_127 rfl ?_
      refine j_aload_n K 0 d12_slips_129 rfl rfl ?_
      obtain ⟨r8, μ8, e8, h⟩ := bd_e h
      refine mcall_i K (c12_wrongOnes_ok l D θ N  μ _ e8) mG_wrongOnes mh_wrongOnes (by decide) (by decide) rfl (st := [.int x5]) (Nat.le_of_ble_eq_true rfl) rfl d12_slips_130 ?_
      obtain ⟨r9, e9, h⟩ := bo_e h
      refine mcalls_i K (c12_bits_ok l D θ N r8 _ e9) mG_bits mh_bits (by decide) (by decide) rfl (st := [.int x5]) (Nat.le_of_ble_eq_true rfl) rfl d12_slips_133 ?_
      refine j_iadd K d12_slips_136 ?_
      obtain ⟨v10, e10, h⟩ := lt_e h
      refine j_eqi e10 ?_
      refine j_istore (lv' := [(5, .int v10), (0, .ref θ.1), (1, .int x1), (2, .int x2), (3, .int x3), (4, .int x4), (6, .int x6), (7, .int x7), (8, .int x8)]) K d12_slips_137 (by decide) rfl ?_
      refine j_iload K 6 d12_slips_139 rfl ?_
      refine j_aload_n K 1 d12_slips_141 rfl rfl ?_
      refine mg_said K d12_slips_142 ?_
      refine j_bipush (v := 12) K d12_slips_145 (by decide) ?_
      refine ml_said K (inb_e (by decide)) d12_slips_147 ?_
      refine j_iadd K d12_slips_148 ?_
      obtain ⟨v11, e11, h⟩ := lt_e h
      refine j_eqi e11 ?_
      refine j_istore (lv' := [(6, .int v11), (5, .int v10), (0, .ref θ.1), (1, .int x1), (2, .int x2), (3, .int x3), (4, .int x4), (7, .int x7), (8, .int x8)]) K d12_slips_149 (by decide) rfl ?_
      refine j_aload_n K 2 d12_slips_151 rfl rfl ?_
      obtain ⟨μ12, e12, h⟩ := bo_e h
      refine mcall_v K (c12_laysBack_ok l D θ N  μ8 _ e12) mG_laysBack mh_laysBack (by decide) (by decide) rfl (st := []) (Nat.le_of_ble_eq_true rfl) rfl d12_slips_152 ?_
      obtain ⟨v13, e13, h⟩ := lt_e h
      refine j_iinc (k := 7) (v := v13) (lv' := [(7, .int v13), (6, .int v11), (5, .int v10), (0, .ref θ.1), (1, .int x1), (2, .int x2), (3, .int x3), (4, .int x4), (8, .int x8)]) K d12_slips_155 rfl (by rw [e13]; rfl) (by decide) rfl ?_
      refine j_goto (tgt := 78) K d12_slips_158 (by decide) ?_
      refine j_sub [3, 4, 5, 6, 7, 2, 1, 0] rfl ?_
      exact hk78 x1 x2 x3 x4 v10 v11 v13 μ12 h
    · have h := if_f h q
      refine j_aload_n K 0 d12_slips_93 rfl rfl ?_
      refine j_bipush (v := 100) K d12_slips_94 (by decide) ?_
      obtain ⟨r14, μ14, e14, h⟩ := bd_e h
      refine mcall_i K (c12_draw_ok l D θ N 100 μ _ e14) mG_draw mh_draw (by decide) (by decide) rfl (st := []) (Nat.le_of_ble_eq_true rfl) rfl d12_slips_96 ?_
      refine j_iload_n K 3 d12_slips_99 rfl rfl ?_
      refine j_icmp_ge (tgt := 116) K d12_slips_100 (by decide) (fun q => ?_) (fun q => ?_)
      · have h := if_t h q
        refine j_aload_n K 0 d12_slips_116 rfl rfl ?_
        obtain ⟨r15, μ15, e15, h⟩ := bd_e h
        refine mcall_i K (c12_passes_ok l D θ N  μ14 _ e15) mG_passes mh_passes (by decide) (by decide) rfl (st := []) (Nat.le_of_ble_eq_true rfl) rfl d12_slips_117 ?_
        refine j_pop K d12_slips_120 rfl ?_
        obtain ⟨v16, e16, h⟩ := lt_e h
        refine j_iinc (k := 8) (v := v16) (lv' := [(8, .int v16), (0, .ref θ.1), (1, .int x1), (2, .int x2), (3, .int x3), (4, .int x4), (5, .int x5), (6, .int x6), (7, .int x7)]) K d12_slips_121 rfl (by rw [e16]; rfl) (by decide) rfl ?_
        refine j_goto (tgt := 87) K d12_slips_124 (by decide) ?_
        refine j_sub [1, 2, 3, 4, 5, 6, 7, 8, 0] rfl ?_
        exact ih x1 x2 x3 x4 x5 x6 x7 v16 μ15 h
      · have h := if_f h q
        refine j_aload_n K 0 d12_slips_103 rfl rfl ?_
        refine mg_said K d12_slips_104 ?_
        refine j_iconst (v := 3) K d12_slips_107 (by decide) ?_
        refine ml_said K (inb_e (by decide)) d12_slips_108 ?_
        refine j_if_le (tgt := 116) K d12_slips_109 (by decide) (fun q => ?_) (fun q => ?_)
        · have h := if_t h q
          refine j_aload_n K 0 d12_slips_116 rfl rfl ?_
          obtain ⟨r17, μ17, e17, h⟩ := bd_e h
          refine mcall_i K (c12_passes_ok l D θ N  μ14 _ e17) mG_passes mh_passes (by decide) (by decide) rfl (st := []) (Nat.le_of_ble_eq_true rfl) rfl d12_slips_117 ?_
          refine j_pop K d12_slips_120 rfl ?_
          obtain ⟨v18, e18, h⟩ := lt_e h
          refine j_iinc (k := 8) (v := v18) (lv' := [(8, .int v18), (0, .ref θ.1), (1, .int x1), (2, .int x2), (3, .int x3), (4, .int x4), (5, .int x5), (6, .int x6), (7, .int x7)]) K d12_slips_121 rfl (by rw [e18]; rfl) (by decide) rfl ?_
          refine j_goto (tgt := 87) K d12_slips_124 (by decide) ?_
          refine j_sub [1, 2, 3, 4, 5, 6, 7, 8, 0] rfl ?_
          exact ih x1 x2 x3 x4 x5 x6 x7 v18 μ17 h
        · have h := if_f h q
          refine j_aload_n K 0 d12_slips_112 rfl rfl ?_
          obtain ⟨μ19, e19, h⟩ := bo_e h
          refine mcall_v K (c12_slipsOne_ok l D θ N  μ14 _ e19) mG_slipsOne mh_slipsOne (by decide) (by decide) rfl (st := []) (Nat.le_of_ble_eq_true rfl) rfl d12_slips_113 ?_
          refine j_aload_n K 0 d12_slips_116 rfl rfl ?_
          obtain ⟨r20, μ20, e20, h⟩ := bd_e h
          refine mcall_i K (c12_passes_ok l D θ N  μ19 _ e20) mG_passes mh_passes (by decide) (by decide) rfl (st := []) (Nat.le_of_ble_eq_true rfl) rfl d12_slips_117 ?_
          refine j_pop K d12_slips_120 rfl ?_
          obtain ⟨v21, e21, h⟩ := lt_e h
          refine j_iinc (k := 8) (v := v21) (lv' := [(8, .int v21), (0, .ref θ.1), (1, .int x1), (2, .int x2), (3, .int x3), (4, .int x4), (5, .int x5), (6, .int x6), (7, .int x7)]) K d12_slips_121 rfl (by rw [e21]; rfl) (by decide) rfl ?_
          refine j_goto (tgt := 87) K d12_slips_124 (by decide) ?_
          refine j_sub [1, 2, 3, 4, 5, 6, 7, 8, 0] rfl ?_
          exact ih x1 x2 x3 x4 x5 x6 x7 v21 μ20 h
def b12_slips_78 (N : Nat) : Nat → Int32 → Int32 → Int32 → Int32 → Int32 → Int32 → Int32 → Mz → Option (Int32 × Mz)
  | 0, _, _, _, _, _, _, _, _ => none
  | n + 1, x1, x2, x3, x4, x5, x6, x7, μ => if x1 ≤ x7 then if x4 = 0 then some (x5, μ) else some (x6, μ) else b12_slips_87 N (b12_slips_78 N n) N x1 x2 x3 x4 x5 x6 x7 0 μ
set_option maxHeartbeats 4000000 in
set_option maxRecDepth 100000 in
theorem t12_slips_78 {p : Program} {l : Launch} {e : Env} {s : State} {m : MethodId} {args : Array Value} {below : List Frame} {meth : Method} {c : Code} {D : va_G} {θ : Th} {A : Nat → Prop} (K : KM p s m args c c12_slips 9 y12_slips (some .int) D θ A) (hr : meth.sig.returnType = (some .int)) (hlk : meth.locks = false) (N : Nat) (ρ : Int32 × Mz) : ∀ (n : Nat) (x1 : Int32) (x2 : Int32) (x3 : Int32) (x4 : Int32) (x5 : Int32) (x6 : Int32) (x7 : Int32) (μ : Mz), b12_slips_78 N n x1 x2 x3 x4 x5 x6 x7 μ = some ρ → JM p l e s m args below meth c D θ A 8 9 (QMi below args s D θ A ρ) μ [(0, .ref θ.1), (1, .int x1), (2, .int x2), (3, .int x3), (4, .int x4), (5, .int x5), (6, .int x6), (7, .int x7)] [] 78 := by
  intro n
  induction n with
  | zero =>
    intro x1 x2 x3 x4 x5 x6 x7 μ h
    exact absurd h (by simp [b12_slips_78])
  | succ n ih =>
    intro x1 x2 x3 x4 x5 x6 x7 μ h
    rw [b12_slips_78] at h
    refine j_iload K 7 d12_slips_78 rfl ?_
    refine j_iload_n K 1 d12_slips_80 rfl rfl ?_
    refine j_icmp_ge (tgt := 161) K d12_slips_81 (by decide) (fun q => ?_) (fun q => ?_)
    · have h := if_t h q
      refine j_iload K 4 d12_slips_161 rfl ?_
      refine j_if_ne (tgt := 171) K d12_slips_163 (by decide) (fun q => ?_) (fun q => ?_)
      · have h := if_f h q
        refine j_iload K 6 d12_slips_171 rfl ?_
        exact mret_i K h hr hlk d12_slips_173
      · have h := if_t h q
        refine j_iload K 5 d12_slips_166 rfl ?_
        refine j_goto (tgt := 173) K d12_slips_168 (by decide) ?_
        exact mret_i K h hr hlk d12_slips_173
    · have h := if_f h q
      refine j_iconst (v := 0) K d12_slips_84 (by decide) ?_
      refine j_istore (lv' := [(8, .int 0), (0, .ref θ.1), (1, .int x1), (2, .int x2), (3, .int x3), (4, .int x4), (5, .int x5), (6, .int x6), (7, .int x7)]) K d12_slips_85 (by decide) rfl ?_
      refine j_sub [1, 2, 3, 4, 5, 6, 7, 8, 0] rfl ?_
      exact t12_slips_87 K hr hlk N ρ (b12_slips_78 N n) ih N x1 x2 x3 x4 x5 x6 x7 0 μ h
def p12_slips (N : Nat) (a1 : Int32) (a2 : Int32) (a3 : Int32) (a4 : Int32) (μ : Mz) : Option (Int32 × Mz) := bd (p12_isBook N  μ) (fun r1 μ1 => if r1 = 0 then some ((-1), μ1) else bo (p12_in N (a1.toInt64) 1 10) (fun r2 => if r2 = 0 then some ((-1), μ1) else bo (p12_in N (a2.toInt64) 1 60) (fun r3 => if r3 = 0 then some ((-1), μ1) else bo (p12_in N (a3.toInt64) 0 100) (fun r4 => if r4 = 0 then some ((-1), μ1) else bo (p12_in N (a4.toInt64) 0 1) (fun r5 => if r5 = 0 then some ((-1), μ1) else lt (sj 0 ((gi 12 μ1).toInt64) μ1) (fun μ6 => bo (p12_keeps N  μ6) (fun μ7 => b12_slips_78 N N a1 a2 a3 a4 0 0 0 μ7)))))))
set_option maxHeartbeats 4000000 in
set_option maxRecDepth 100000 in
theorem c12_slips_ok (l : Launch) (D : va_G) (θ : Th) (N : Nat) (a1 : Int32) (a2 : Int32) (a3 : Int32) (a4 : Int32) (μ : Mz) (ρ : Int32 × Mz) (h : p12_slips N a1 a2 a3 a4 μ = some ρ) : CMi l D θ y12_slips c12_slips 9 (some .int) 8 [.int a1, .int a2, .int a3, .int a4] μ ρ := by
  intro sz
  refine j_met l [.ref θ.1, .int a1, .int a2, .int a3, .int a4] (by decide +kernel) (Nat.le_of_ble_eq_true rfl) ?_
  intro p e s m args below meth c K hr hlk hnm hs
  generalize va_A (wM θ μ) sz = A at K ⊢
  have K : KM p s m args c c12_slips 9 y12_slips (some .int) D θ A := K
  show JM p l e s m args below meth c D θ A 8 9 (QMi below args s D θ A ρ) μ [(0, .ref θ.1), (1, .int a1), (2, .int a2), (3, .int a3), (4, .int a4)] [] 0
  unfold p12_slips at h
  refine j_aload_n K 0 d12_slips_0 rfl rfl ?_
  obtain ⟨r1, μ1, e1, h⟩ := bd_e h
  refine mcall_i K (c12_isBook_ok l D θ N  μ _ e1) mG_isBook mh_isBook (by decide) (by decide) rfl (st := []) (Nat.le_of_ble_eq_true rfl) rfl d12_slips_1 ?_
  refine j_if_eq (tgt := 54) K d12_slips_4 (by decide) (fun q => ?_) (fun q => ?_)
  · have h := if_t h q
    refine j_iconst (v := (-1)) K d12_slips_54 (by decide) ?_
    exact mret_i K h hr hlk d12_slips_55
  · have h := if_f h q
    refine j_iload_n K 1 d12_slips_7 rfl rfl ?_
    refine j_i2l K d12_slips_8 ?_
    refine j_lconst (v := 1) K d12_slips_9 (by decide) ?_
    refine j_ldc2 (v := 10) K (List.mem_cons_of_mem _ mk12_404) d12_slips_10 ?_
    obtain ⟨r2, e2, h⟩ := bo_e h
    refine mcalls_i K (c12_in_ok l D θ N (a1.toInt64) 1 10 _ e2) mG_in mh_in (by decide) (by decide) rfl (st := []) (Nat.le_of_ble_eq_true rfl) rfl d12_slips_13 ?_
    refine j_if_eq (tgt := 54) K d12_slips_16 (by decide) (fun q => ?_) (fun q => ?_)
    · have h := if_t h q
      refine j_iconst (v := (-1)) K d12_slips_54 (by decide) ?_
      exact mret_i K h hr hlk d12_slips_55
    · have h := if_f h q
      refine j_iload_n K 2 d12_slips_19 rfl rfl ?_
      refine j_i2l K d12_slips_20 ?_
      refine j_lconst (v := 1) K d12_slips_21 (by decide) ?_
      refine j_ldc2 (v := 60) K (List.mem_cons_of_mem _ mk12_434) d12_slips_22 ?_
      obtain ⟨r3, e3, h⟩ := bo_e h
      refine mcalls_i K (c12_in_ok l D θ N (a2.toInt64) 1 60 _ e3) mG_in mh_in (by decide) (by decide) rfl (st := []) (Nat.le_of_ble_eq_true rfl) rfl d12_slips_25 ?_
      refine j_if_eq (tgt := 54) K d12_slips_28 (by decide) (fun q => ?_) (fun q => ?_)
      · have h := if_t h q
        refine j_iconst (v := (-1)) K d12_slips_54 (by decide) ?_
        exact mret_i K h hr hlk d12_slips_55
      · have h := if_f h q
        refine j_iload_n K 3 d12_slips_31 rfl rfl ?_
        refine j_i2l K d12_slips_32 ?_
        refine j_lconst (v := 0) K d12_slips_33 (by decide) ?_
        refine j_ldc2 (v := 100) K (List.mem_cons_of_mem _ mk12_368) d12_slips_34 ?_
        obtain ⟨r4, e4, h⟩ := bo_e h
        refine mcalls_i K (c12_in_ok l D θ N (a3.toInt64) 0 100 _ e4) mG_in mh_in (by decide) (by decide) rfl (st := []) (Nat.le_of_ble_eq_true rfl) rfl d12_slips_37 ?_
        refine j_if_eq (tgt := 54) K d12_slips_40 (by decide) (fun q => ?_) (fun q => ?_)
        · have h := if_t h q
          refine j_iconst (v := (-1)) K d12_slips_54 (by decide) ?_
          exact mret_i K h hr hlk d12_slips_55
        · have h := if_f h q
          refine j_iload K 4 d12_slips_43 rfl ?_
          refine j_i2l K d12_slips_45 ?_
          refine j_lconst (v := 0) K d12_slips_46 (by decide) ?_
          refine j_lconst (v := 1) K d12_slips_47 (by decide) ?_
          obtain ⟨r5, e5, h⟩ := bo_e h
          refine mcalls_i K (c12_in_ok l D θ N (a4.toInt64) 0 1 _ e5) mG_in mh_in (by decide) (by decide) rfl (st := []) (Nat.le_of_ble_eq_true rfl) rfl d12_slips_48 ?_
          refine j_if_ne (tgt := 56) K d12_slips_51 (by decide) (fun q => ?_) (fun q => ?_)
          · have h := if_f h q
            refine j_aload_n K 0 d12_slips_56 rfl rfl ?_
            refine j_aload_n K 0 d12_slips_57 rfl rfl ?_
            refine mg_x K d12_slips_58 ?_
            refine j_i2l K d12_slips_61 ?_
            obtain ⟨μ6, e6, h⟩ := lt_e h
            refine mp_drawX K d12_slips_62 e6 ?_
            refine j_iconst (v := 0) K d12_slips_65 (by decide) ?_
            refine j_istore (lv' := [(5, .int 0), (0, .ref θ.1), (1, .int a1), (2, .int a2), (3, .int a3), (4, .int a4)]) K d12_slips_66 (by decide) rfl ?_
            refine j_iconst (v := 0) K d12_slips_68 (by decide) ?_
            refine j_istore (lv' := [(6, .int 0), (5, .int 0), (0, .ref θ.1), (1, .int a1), (2, .int a2), (3, .int a3), (4, .int a4)]) K d12_slips_69 (by decide) rfl ?_
            refine j_aload_n K 2 d12_slips_71 rfl rfl ?_
            obtain ⟨μ7, e7, h⟩ := bo_e h
            refine mcall_v K (c12_keeps_ok l D θ N  μ6 _ e7) mG_keeps mh_keeps (by decide) (by decide) rfl (st := []) (Nat.le_of_ble_eq_true rfl) rfl d12_slips_72 ?_
            refine j_iconst (v := 0) K d12_slips_75 (by decide) ?_
            refine j_istore (lv' := [(7, .int 0), (6, .int 0), (5, .int 0), (0, .ref θ.1), (1, .int a1), (2, .int a2), (3, .int a3), (4, .int a4)]) K d12_slips_76 (by decide) rfl ?_
            refine j_sub [3, 4, 5, 6, 7, 2, 1, 0] rfl ?_
            exact t12_slips_78 K hr hlk N ρ N a1 a2 a3 a4 0 0 0 μ7 h
          · have h := if_t h q
            refine j_iconst (v := (-1)) K d12_slips_54 (by decide) ?_
            exact mret_i K h hr hlk d12_slips_55
def b12_tested_76 (N : Nat) (k12 : Int32 → Mz → Option (Int32 × Mz)) (x1 : Int32) (t0 : Int32) (μ : Mz) : Option (Int32 × Mz) := bo (p12_passWord N  μ) (fun μ12 => bo (p12_strength N t0) (fun r13 => bo (p12_layDown N r13 μ12) (fun μ14 => ck (inb (gi 9 μ14) 400) (lt (sa 6 (upd (ga 6 μ14) (gi 9 μ14).toNatClampNeg t0) μ14) (fun μ16 => lt (si 9 ((gi 9 μ16) + 1) μ16) (fun μ17 => k12 x1 μ17))))))
set_option maxHeartbeats 4000000 in
set_option maxRecDepth 100000 in
theorem t12_tested_76 {p : Program} {l : Launch} {e : Env} {s : State} {m : MethodId} {args : Array Value} {below : List Frame} {meth : Method} {c : Code} {D : va_G} {θ : Th} {A : Nat → Prop} (K : KM p s m args c c12_tested 3 y12_tested (some .boolean) D θ A) (hr : meth.sig.returnType = (some .boolean)) (hlk : meth.locks = false) (N : Nat) (ρ : Int32 × Mz) (k12 : Int32 → Mz → Option (Int32 × Mz)) (hk12 : ∀ (x1 : Int32) (μ : Mz), k12 x1 μ = some ρ → JM p l e s m args below meth c D θ A 9 3 (QMi below args s D θ A ρ) μ [(0, .ref θ.1), (1, .int x1)] [] 12) (x1 : Int32) (t0 : Int32) (μ : Mz) (h : b12_tested_76 N k12 x1 t0 μ = some ρ) : JM p l e s m args below meth c D θ A 9 3 (QMi below args s D θ A ρ) μ [(0, .ref θ.1), (1, .int x1)] [.int t0] 76 := by
  unfold b12_tested_76 at h
  refine j_istore_n (lv' := [(2, .int t0), (0, .ref θ.1), (1, .int x1)]) K d12_tested_76 rfl (by decide) rfl ?_
  refine j_aload_n K 1 d12_tested_77 rfl rfl ?_
  obtain ⟨μ12, e12, h⟩ := bo_e h
  refine mcall_v K (c12_passWord_ok l D θ N  μ _ e12) mG_passWord mh_passWord (by decide) (by decide) rfl (st := []) (Nat.le_of_ble_eq_true rfl) rfl d12_tested_78 ?_
  refine j_aload_n K 1 d12_tested_81 rfl rfl ?_
  refine j_iload_n K 0 d12_tested_82 rfl rfl ?_
  obtain ⟨r13, e13, h⟩ := bo_e h
  refine mcalls_i K (c12_strength_ok l D θ N t0 _ e13) mG_strength mh_strength (by decide) (by decide) rfl (st := [.ref θ.1]) (Nat.le_of_ble_eq_true rfl) rfl d12_tested_83 ?_
  obtain ⟨μ14, e14, h⟩ := bo_e h
  refine mcall_v K (c12_layDown_ok l D θ N r13 μ12 _ e14) mG_layDown mh_layDown (by decide) (by decide) rfl (st := []) (Nat.le_of_ble_eq_true rfl) rfl d12_tested_86 ?_
  refine j_aload_n K 1 d12_tested_89 rfl rfl ?_
  refine mg_open K d12_tested_90 ?_
  refine j_aload_n K 1 d12_tested_93 rfl rfl ?_
  refine mg_opened K d12_tested_94 ?_
  refine j_iload_n K 0 d12_tested_97 rfl rfl ?_
  obtain ⟨q15, h⟩ := ck_e h
  obtain ⟨μ16, e16, h⟩ := lt_e h
  refine ms_open K (inb_e q15) d12_tested_98 e16 ?_
  refine j_aload_n K 1 d12_tested_99 rfl rfl ?_
  refine j_dup K d12_tested_100 rfl ?_
  refine mg_opened K d12_tested_101 ?_
  refine j_iconst (v := 1) K d12_tested_104 (by decide) ?_
  refine j_iadd K d12_tested_105 ?_
  obtain ⟨μ17, e17, h⟩ := lt_e h
  refine mp_opened K d12_tested_106 e17 ?_
  refine j_goto (tgt := 12) K d12_tested_109 (by decide) ?_
  refine j_sub [1, 2] rfl ?_
  exact hk12 x1 μ17 h
def b12_tested_54 (N : Nat) (k12 : Int32 → Mz → Option (Int32 × Mz)) (t0 : Int32) (μ : Mz) : Option (Int32 × Mz) := if t0 = 0 then k12 t0 μ else bd (p12_isWord N 6385252 μ) (fun r11 μ11 => if r11 = 0 then b12_tested_76 N k12 t0 13 μ11 else b12_tested_76 N k12 t0 12 μ11)
set_option maxHeartbeats 4000000 in
set_option maxRecDepth 100000 in
theorem t12_tested_54 {p : Program} {l : Launch} {e : Env} {s : State} {m : MethodId} {args : Array Value} {below : List Frame} {meth : Method} {c : Code} {D : va_G} {θ : Th} {A : Nat → Prop} (K : KM p s m args c c12_tested 3 y12_tested (some .boolean) D θ A) (hr : meth.sig.returnType = (some .boolean)) (hlk : meth.locks = false) (N : Nat) (ρ : Int32 × Mz) (k12 : Int32 → Mz → Option (Int32 × Mz)) (hk12 : ∀ (x1 : Int32) (μ : Mz), k12 x1 μ = some ρ → JM p l e s m args below meth c D θ A 9 3 (QMi below args s D θ A ρ) μ [(0, .ref θ.1), (1, .int x1)] [] 12) (t0 : Int32) (μ : Mz) (h : b12_tested_54 N k12 t0 μ = some ρ) : JM p l e s m args below meth c D θ A 9 3 (QMi below args s D θ A ρ) μ [(0, .ref θ.1)] [.int t0] 54 := by
  unfold b12_tested_54 at h
  refine j_istore_n (lv' := [(1, .int t0), (0, .ref θ.1)]) K d12_tested_54 rfl (by decide) rfl ?_
  refine j_iload_n K 0 d12_tested_55 rfl rfl ?_
  refine j_if_eq (tgt := 12) K d12_tested_56 (by decide) (fun q => ?_) (fun q => ?_)
  · have h := if_t h q
    refine j_sub [1, 0] rfl ?_
    exact hk12 t0 μ h
  · have h := if_f h q
    refine j_aload_n K 1 d12_tested_59 rfl rfl ?_
    refine j_ldc2 (v := 6385252) K (List.mem_cons_of_mem _ mk12_215) d12_tested_60 ?_
    obtain ⟨r11, μ11, e11, h⟩ := bd_e h
    refine mcall_i K (c12_isWord_ok l D θ N 6385252 μ _ e11) mG_isWord mh_isWord (by decide) (by decide) rfl (st := []) (Nat.le_of_ble_eq_true rfl) rfl d12_tested_63 ?_
    refine j_if_eq (tgt := 74) K d12_tested_66 (by decide) (fun q => ?_) (fun q => ?_)
    · have h := if_t h q
      refine j_bipush (v := 13) K d12_tested_74 (by decide) ?_
      refine j_sub [1, 0] rfl ?_
      exact t12_tested_76 K hr hlk N ρ k12 hk12 t0 13 μ11 h
    · have h := if_f h q
      refine j_bipush (v := 12) K d12_tested_69 (by decide) ?_
      refine j_goto (tgt := 76) K d12_tested_71 (by decide) ?_
      refine j_sub [1, 0] rfl ?_
      exact t12_tested_76 K hr hlk N ρ k12 hk12 t0 12 μ11 h
def b12_tested_49 (N : Nat) (k12 : Int32 → Mz → Option (Int32 × Mz))  (μ : Mz) : Option (Int32 × Mz) := b12_tested_54 N k12 1 μ
set_option maxHeartbeats 4000000 in
set_option maxRecDepth 100000 in
theorem t12_tested_49 {p : Program} {l : Launch} {e : Env} {s : State} {m : MethodId} {args : Array Value} {below : List Frame} {meth : Method} {c : Code} {D : va_G} {θ : Th} {A : Nat → Prop} (K : KM p s m args c c12_tested 3 y12_tested (some .boolean) D θ A) (hr : meth.sig.returnType = (some .boolean)) (hlk : meth.locks = false) (N : Nat) (ρ : Int32 × Mz) (k12 : Int32 → Mz → Option (Int32 × Mz)) (hk12 : ∀ (x1 : Int32) (μ : Mz), k12 x1 μ = some ρ → JM p l e s m args below meth c D θ A 9 3 (QMi below args s D θ A ρ) μ [(0, .ref θ.1), (1, .int x1)] [] 12)  (μ : Mz) (h : b12_tested_49 N k12  μ = some ρ) : JM p l e s m args below meth c D θ A 9 3 (QMi below args s D θ A ρ) μ [(0, .ref θ.1)] [] 49 := by
  unfold b12_tested_49 at h
  refine j_iconst (v := 1) K d12_tested_49 (by decide) ?_
  refine j_goto (tgt := 54) K d12_tested_50 (by decide) ?_
  exact t12_tested_54 K hr hlk N ρ k12 hk12 1 μ h
def b12_tested_12 (N : Nat) : Nat → Int32 → Mz → Option (Int32 × Mz)
  | 0, _, _ => none
  | n + 1, x1, μ => if x1 = 0 then bd (p12_isInside N  μ) (fun r3 μ3 => if r3 = 0 then bo (p12_layDown N 1 μ3) (fun μ4 => some (1, μ4)) else bd (p12_see N  μ3) (fun r5 μ5 => bd (p12_fails N 0 (gi 2 μ5) μ5) (fun r6 μ6 => ck (b01 r6) (some (r6, μ6))))) else bd (p12_fact N  μ) (fun r8 μ8 => if r8 = 0 then some (0, μ8) else bo (p12_closes N  μ8) (fun μ9 => bd (p12_isWord N 6385252 μ9) (fun r10 μ10 => if r10 = 0 then bd (p12_isWord N 28530 μ10) (fun r18 μ18 => if r18 = 0 then b12_tested_54 N (b12_tested_12 N n) 0 μ18 else b12_tested_49 N (b12_tested_12 N n) μ18) else b12_tested_49 N (b12_tested_12 N n) μ10)))
set_option maxHeartbeats 4000000 in
set_option maxRecDepth 100000 in
theorem t12_tested_12 {p : Program} {l : Launch} {e : Env} {s : State} {m : MethodId} {args : Array Value} {below : List Frame} {meth : Method} {c : Code} {D : va_G} {θ : Th} {A : Nat → Prop} (K : KM p s m args c c12_tested 3 y12_tested (some .boolean) D θ A) (hr : meth.sig.returnType = (some .boolean)) (hlk : meth.locks = false) (N : Nat) (ρ : Int32 × Mz) : ∀ (n : Nat) (x1 : Int32) (μ : Mz), b12_tested_12 N n x1 μ = some ρ → JM p l e s m args below meth c D θ A 9 3 (QMi below args s D θ A ρ) μ [(0, .ref θ.1), (1, .int x1)] [] 12 := by
  intro n
  induction n with
  | zero =>
    intro x1 μ h
    exact absurd h (by simp [b12_tested_12])
  | succ n ih =>
    intro x1 μ h
    rw [b12_tested_12] at h
    refine j_iload_n K 1 d12_tested_12 rfl rfl ?_
    refine j_if_eq (tgt := 112) K d12_tested_13 (by decide) (fun q => ?_) (fun q => ?_)
    · have h := if_t h q
      refine j_aload_n K 0 d12_tested_112 rfl rfl ?_
      obtain ⟨r3, μ3, e3, h⟩ := bd_e h
      refine mcall_i K (c12_isInside_ok l D θ N  μ _ e3) mG_isInside mh_isInside (by decide) (by decide) rfl (st := []) (Nat.le_of_ble_eq_true rfl) rfl d12_tested_113 ?_
      refine j_if_eq (tgt := 134) K d12_tested_116 (by decide) (fun q => ?_) (fun q => ?_)
      · have h := if_t h q
        refine j_aload_n K 0 d12_tested_134 rfl rfl ?_
        refine j_iconst (v := 1) K d12_tested_135 (by decide) ?_
        obtain ⟨μ4, e4, h⟩ := bo_e h
        refine mcall_v K (c12_layDown_ok l D θ N 1 μ3 _ e4) mG_layDown mh_layDown (by decide) (by decide) rfl (st := []) (Nat.le_of_ble_eq_true rfl) rfl d12_tested_136 ?_
        refine j_iconst (v := 1) K d12_tested_139 (by decide) ?_
        exact mret_z K h rfl hr hlk d12_tested_140
      · have h := if_f h q
        refine j_aload_n K 0 d12_tested_119 rfl rfl ?_
        obtain ⟨r5, μ5, e5, h⟩ := bd_e h
        refine mcall_i K (c12_see_ok l D θ N  μ3 _ e5) mG_see mh_see (by decide) (by decide) rfl (st := []) (Nat.le_of_ble_eq_true rfl) rfl d12_tested_120 ?_
        refine j_pop K d12_tested_123 rfl ?_
        refine j_aload_n K 0 d12_tested_124 rfl rfl ?_
        refine j_iconst (v := 0) K d12_tested_125 (by decide) ?_
        refine j_aload_n K 0 d12_tested_126 rfl rfl ?_
        refine mg_next K d12_tested_127 ?_
        obtain ⟨r6, μ6, e6, h⟩ := bd_e h
        refine mcall_i K (c12_fails_ok l D θ N 0 (gi 2 μ5) μ5 _ e6) mG_fails mh_fails (by decide) (by decide) rfl (st := []) (Nat.le_of_ble_eq_true rfl) rfl d12_tested_130 ?_
        obtain ⟨q7, h⟩ := ck_e h
        exact mret_z K h (b01_e q7) hr hlk d12_tested_133
    · have h := if_f h q
      refine j_aload_n K 0 d12_tested_16 rfl rfl ?_
      obtain ⟨r8, μ8, e8, h⟩ := bd_e h
      refine mcall_i K (c12_fact_ok l D θ N  μ _ e8) mG_fact mh_fact (by decide) (by decide) rfl (st := []) (Nat.le_of_ble_eq_true rfl) rfl d12_tested_17 ?_
      refine j_if_ne (tgt := 25) K d12_tested_20 (by decide) (fun q => ?_) (fun q => ?_)
      · have h := if_f h q
        refine j_aload_n K 0 d12_tested_25 rfl rfl ?_
        obtain ⟨μ9, e9, h⟩ := bo_e h
        refine mcall_v K (c12_closes_ok l D θ N  μ8 _ e9) mG_closes mh_closes (by decide) (by decide) rfl (st := []) (Nat.le_of_ble_eq_true rfl) rfl d12_tested_26 ?_
        refine j_aload_n K 0 d12_tested_29 rfl rfl ?_
        refine j_ldc2 (v := 6385252) K (List.mem_cons_of_mem _ mk12_215) d12_tested_30 ?_
        obtain ⟨r10, μ10, e10, h⟩ := bd_e h
        refine mcall_i K (c12_isWord_ok l D θ N 6385252 μ9 _ e10) mG_isWord mh_isWord (by decide) (by decide) rfl (st := []) (Nat.le_of_ble_eq_true rfl) rfl d12_tested_33 ?_
        refine j_if_ne (tgt := 49) K d12_tested_36 (by decide) (fun q => ?_) (fun q => ?_)
        · have h := if_f h q
          refine j_sub [0] rfl ?_
          exact t12_tested_49 K hr hlk N ρ (b12_tested_12 N n) ih  μ10 h
        · have h := if_t h q
          refine j_aload_n K 0 d12_tested_39 rfl rfl ?_
          refine j_ldc2 (v := 28530) K (List.mem_cons_of_mem _ mk12_217) d12_tested_40 ?_
          obtain ⟨r18, μ18, e18, h⟩ := bd_e h
          refine mcall_i K (c12_isWord_ok l D θ N 28530 μ10 _ e18) mG_isWord mh_isWord (by decide) (by decide) rfl (st := []) (Nat.le_of_ble_eq_true rfl) rfl d12_tested_43 ?_
          refine j_if_eq (tgt := 53) K d12_tested_46 (by decide) (fun q => ?_) (fun q => ?_)
          · have h := if_t h q
            refine j_iconst (v := 0) K d12_tested_53 (by decide) ?_
            refine j_sub [0] rfl ?_
            exact t12_tested_54 K hr hlk N ρ (b12_tested_12 N n) ih 0 μ18 h
          · have h := if_f h q
            refine j_sub [0] rfl ?_
            exact t12_tested_49 K hr hlk N ρ (b12_tested_12 N n) ih  μ18 h
      · have h := if_t h q
        refine j_iconst (v := 0) K d12_tested_23 (by decide) ?_
        exact mret_z K h rfl hr hlk d12_tested_24
def p12_tested (N : Nat)  (μ : Mz) : Option (Int32 × Mz) := lt (si 9 0 μ) (fun μ1 => lt (si 7 0 μ1) (fun μ2 => b12_tested_12 N N 1 μ2))
set_option maxHeartbeats 4000000 in
set_option maxRecDepth 100000 in
theorem c12_tested_ok (l : Launch) (D : va_G) (θ : Th) (N : Nat)  (μ : Mz) (ρ : Int32 × Mz) (h : p12_tested N  μ = some ρ) : CMi l D θ y12_tested c12_tested 3 (some .boolean) 9 [] μ ρ := by
  intro sz
  refine j_met l [.ref θ.1] (by decide +kernel) (Nat.le_of_ble_eq_true rfl) ?_
  intro p e s m args below meth c K hr hlk hnm hs
  generalize va_A (wM θ μ) sz = A at K ⊢
  have K : KM p s m args c c12_tested 3 y12_tested (some .boolean) D θ A := K
  show JM p l e s m args below meth c D θ A 9 3 (QMi below args s D θ A ρ) μ [(0, .ref θ.1)] [] 0
  unfold p12_tested at h
  refine j_aload_n K 0 d12_tested_0 rfl rfl ?_
  refine j_iconst (v := 0) K d12_tested_1 (by decide) ?_
  obtain ⟨μ1, e1, h⟩ := lt_e h
  refine mp_opened K d12_tested_2 e1 ?_
  refine j_aload_n K 0 d12_tested_5 rfl rfl ?_
  refine j_iconst (v := 0) K d12_tested_6 (by decide) ?_
  obtain ⟨μ2, e2, h⟩ := lt_e h
  refine mp_deep K d12_tested_7 e2 ?_
  refine j_iconst (v := 1) K d12_tested_10 (by decide) ?_
  refine j_istore_n (lv' := [(1, .int 1), (0, .ref θ.1)]) K d12_tested_11 rfl (by decide) rfl ?_
  refine j_sub [1, 0] rfl ?_
  exact t12_tested_12 K hr hlk N ρ N 1 μ2 h
