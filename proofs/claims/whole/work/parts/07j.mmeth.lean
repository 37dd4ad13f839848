def b12_ahead_45 (N : Nat) (x1 : Int32) (x2 : Int32) (x3 : Int32) (μ : Mz) : Option (Int32 × Mz) := bo (p12_keeps N  μ) (fun μ4 => bo (p12_passesAll N x2 μ4) (fun μ5 => if x3 = 0 then lt (13 + x1) (fun v12 => ck (inb v12 129) (lt (ga 7 μ5 v12.toNatClampNeg) (fun v14 => bo (p12_laysBack N  μ5) (fun μ15 => some (v14, μ15))))) else if x3 = 1 then bd (p12_wrongOnes N  μ5) (fun r10 μ10 => bo (p12_laysBack N  μ10) (fun μ11 => some (r10, μ11))) else if x3 = 2 then lt (ga 7 μ5 (11 : Int32).toNatClampNeg) (fun v8 => bo (p12_laysBack N  μ5) (fun μ9 => some (v8, μ9))) else lt (ga 7 μ5 (12 : Int32).toNatClampNeg) (fun v6 => bo (p12_laysBack N  μ5) (fun μ7 => some (v6, μ7)))))
set_option maxHeartbeats 4000000 in
set_option maxRecDepth 100000 in
theorem t12_ahead_45 {p : Program} {l : Launch} {e : Env} {s : State} {m : MethodId} {args : Array Value} {below : List Frame} {meth : Method} {c : Code} {D : va_G} {θ : Th} {A : Nat → Prop} (K : KM p s m args c c12_ahead 5 y12_ahead (some .int) D θ A) (hr : meth.sig.returnType = (some .int)) (hlk : meth.locks = false) (N : Nat) (ρ : Int32 × Mz) (x1 : Int32) (x2 : Int32) (x3 : Int32) (μ : Mz) (h : b12_ahead_45 N x1 x2 x3 μ = some ρ) : JM p l e s m args below meth c D θ A 9 5 (QMi below args s D θ A ρ) μ [(0, .ref θ.1), (1, .int x1), (2, .int x2), (3, .int x3)] [] 45 := by
  unfold b12_ahead_45 at h
  refine j_aload_n K 0 d12_ahead_45 rfl rfl ?_
  obtain ⟨μ4, e4, h⟩ := bo_e h
  refine mcall_v K (c12_keeps_ok l D θ N  μ _ e4) mG_keeps mh_keeps (by decide) (by decide) rfl (st := []) (Nat.le_of_ble_eq_true rfl) rfl d12_ahead_46 ?_
  refine j_aload_n K 0 d12_ahead_49 rfl rfl ?_
  refine j_iload_n K 2 d12_ahead_50 rfl rfl ?_
  obtain ⟨μ5, e5, h⟩ := bo_e h
  refine mcall_v K (c12_passesAll_ok l D θ N x2 μ4 _ e5) mG_passesAll mh_passesAll (by decide) (by decide) rfl (st := []) (Nat.le_of_ble_eq_true rfl) rfl d12_ahead_51 ?_
  refine j_iload_n K 3 d12_ahead_54 rfl rfl ?_
  refine j_if_ne (tgt := 70) K d12_ahead_55 (by decide) (fun q => ?_) (fun q => ?_)
  · have h := if_f h q
    refine j_iload_n K 3 d12_ahead_70 rfl rfl ?_
    refine j_iconst (v := 1) K d12_ahead_71 (by decide) ?_
    refine j_icmp_ne (tgt := 82) K d12_ahead_72 (by decide) (fun q => ?_) (fun q => ?_)
    · have h := if_f h q
      refine j_iload_n K 3 d12_ahead_82 rfl rfl ?_
      refine j_iconst (v := 2) K d12_ahead_83 (by decide) ?_
      refine j_icmp_ne (tgt := 97) K d12_ahead_84 (by decide) (fun q => ?_) (fun q => ?_)
      · have h := if_f h q
        refine j_aload_n K 0 d12_ahead_97 rfl rfl ?_
        refine mg_said K d12_ahead_98 ?_
        refine j_bipush (v := 12) K d12_ahead_101 (by decide) ?_
        refine ml_said K (inb_e (by decide)) d12_ahead_103 ?_
        obtain ⟨v6, e6, h⟩ := lt_e h
        refine j_eqi e6 ?_
        refine j_istore (lv' := [(4, .int v6), (0, .ref θ.1), (1, .int x1), (2, .int x2), (3, .int x3)]) K d12_ahead_104 (by decide) rfl ?_
        refine j_aload_n K 1 d12_ahead_106 rfl rfl ?_
        obtain ⟨μ7, e7, h⟩ := bo_e h
        refine mcall_v K (c12_laysBack_ok l D θ N  μ5 _ e7) mG_laysBack mh_laysBack (by decide) (by decide) rfl (st := []) (Nat.le_of_ble_eq_true rfl) rfl d12_ahead_107 ?_
        refine j_iload K 0 d12_ahead_110 rfl ?_
        exact mret_i K h hr hlk d12_ahead_112
      · have h := if_t h q
        refine j_aload_n K 0 d12_ahead_87 rfl rfl ?_
        refine mg_said K d12_ahead_88 ?_
        refine j_bipush (v := 11) K d12_ahead_91 (by decide) ?_
        refine ml_said K (inb_e (by decide)) d12_ahead_93 ?_
        refine j_goto (tgt := 104) K d12_ahead_94 (by decide) ?_
        obtain ⟨v8, e8, h⟩ := lt_e h
        refine j_eqi e8 ?_
        refine j_istore (lv' := [(4, .int v8), (0, .ref θ.1), (1, .int x1), (2, .int x2), (3, .int x3)]) K d12_ahead_104 (by decide) rfl ?_
        refine j_aload_n K 1 d12_ahead_106 rfl rfl ?_
        obtain ⟨μ9, e9, h⟩ := bo_e h
        refine mcall_v K (c12_laysBack_ok l D θ N  μ5 _ e9) mG_laysBack mh_laysBack (by decide) (by decide) rfl (st := []) (Nat.le_of_ble_eq_true rfl) rfl d12_ahead_107 ?_
        refine j_iload K 0 d12_ahead_110 rfl ?_
        exact mret_i K h hr hlk d12_ahead_112
    · have h := if_t h q
      refine j_aload_n K 0 d12_ahead_75 rfl rfl ?_
      obtain ⟨r10, μ10, e10, h⟩ := bd_e h
      refine mcall_i K (c12_wrongOnes_ok l D θ N  μ5 _ e10) mG_wrongOnes mh_wrongOnes (by decide) (by decide) rfl (st := []) (Nat.le_of_ble_eq_true rfl) rfl d12_ahead_76 ?_
      refine j_goto (tgt := 104) K d12_ahead_79 (by decide) ?_
      refine j_istore (lv' := [(4, .int r10), (0, .ref θ.1), (1, .int x1), (2, .int x2), (3, .int x3)]) K d12_ahead_104 (by decide) rfl ?_
      refine j_aload_n K 1 d12_ahead_106 rfl rfl ?_
      obtain ⟨μ11, e11, h⟩ := bo_e h
      refine mcall_v K (c12_laysBack_ok l D θ N  μ10 _ e11) mG_laysBack mh_laysBack (by decide) (by decide) rfl (st := []) (Nat.le_of_ble_eq_true rfl) rfl d12_ahead_107 ?_
      refine j_iload K 0 d12_ahead_110 rfl ?_
      exact mret_i K h hr hlk d12_ahead_112
  · have h := if_t h q
    refine j_aload_n K 0 d12_ahead_58 rfl rfl ?_
    refine mg_said K d12_ahead_59 ?_
    refine j_bipush (v := 13) K d12_ahead_62 (by decide) ?_
    refine j_iload_n K 1 d12_ahead_64 rfl rfl ?_
    refine j_iadd K d12_ahead_65 ?_
    obtain ⟨v12, e12, h⟩ := lt_e h
    refine j_eqi e12 ?_
    obtain ⟨q13, h⟩ := ck_e h
    refine ml_said K (inb_e q13) d12_ahead_66 ?_
    refine j_goto (tgt := 104) K d12_ahead_67 (by decide) ?_
    obtain ⟨v14, e14, h⟩ := lt_e h
    refine j_eqi e14 ?_
    refine j_istore (lv' := [(4, .int v14), (0, .ref θ.1), (1, .int x1), (2, .int x2), (3, .int x3)]) K d12_ahead_104 (by decide) rfl ?_
    refine j_aload_n K 1 d12_ahead_106 rfl rfl ?_
    obtain ⟨μ15, e15, h⟩ := bo_e h
    refine mcall_v K (c12_laysBack_ok l D θ N  μ5 _ e15) mG_laysBack mh_laysBack (by decide) (by decide) rfl (st := []) (Nat.le_of_ble_eq_true rfl) rfl d12_ahead_107 ?_
    refine j_iload K 0 d12_ahead_110 rfl ?_
    exact mret_i K h hr hlk d12_ahead_112
def p12_ahead (N : Nat) (a1 : Int32) (a2 : Int32) (a3 : Int32) (μ : Mz) : Option (Int32 × Mz) := bd (p12_isBook N  μ) (fun r1 μ1 => if r1 = 0 then some ((-1), μ1) else bo (p12_in N (a2.toInt64) 0 100) (fun r2 => if r2 = 0 then some ((-1), μ1) else bo (p12_in N (a3.toInt64) 0 3) (fun r3 => if r3 = 0 then some ((-1), μ1) else if a3 = 0 then bd (p12_isInBook N a1 μ1) (fun r16 μ16 => if r16 = 0 then some ((-1), μ16) else b12_ahead_45 N a1 a2 a3 μ16) else b12_ahead_45 N a1 a2 a3 μ1)))
set_option maxHeartbeats 4000000 in
set_option maxRecDepth 100000 in
theorem c12_ahead_ok (l : Launch) (D : va_G) (θ : Th) (N : Nat) (a1 : Int32) (a2 : Int32) (a3 : Int32) (μ : Mz) (ρ : Int32 × Mz) (h : p12_ahead N a1 a2 a3 μ = some ρ) : CMi l D θ y12_ahead c12_ahead 5 (some .int) 9 [.int a1, .int a2, .int a3] μ ρ := by
  intro sz
  refine j_met l [.ref θ.1, .int a1, .int a2, .int a3] (by decide +kernel) (Nat.le_of_ble_eq_true rfl) ?_
  intro p e s m args below meth c K hr hlk hnm hs
  generalize va_A (wM θ μ) sz = A at K ⊢
  have K : KM p s m args c c12_ahead 5 y12_ahead (some .int) D θ A := K
  show JM p l e s m args below meth c D θ A 9 5 (QMi below args s D θ A ρ) μ [(0, .ref θ.1), (1, .int a1), (2, .int a2), (3, .int a3)] [] 0
  unfold p12_ahead at h
  refine j_aload_n K 0 d12_ahead_0 rfl rfl ?_
  obtain ⟨r1, μ1, e1, h⟩ := bd_e h
  refine mcall_i K (c12_isBook_ok l D θ N  μ _ e1) mG_isBook mh_isBook (by decide) (by decide) rfl (st := []) (Nat.le_of_ble_eq_true rfl) rfl d12_ahead_1 ?_
  refine j_if_eq (tgt := 43) K d12_ahead_4 (by decide) (fun q => ?_) (fun q => ?_)
  · have h := if_t h q
    refine j_iconst (v := (-1)) K d12_ahead_43 (by decide) ?_
    exact mret_i K h hr hlk d12_ahead_44
  · have h := if_f h q
    refine j_iload_n K 2 d12_ahead_7 rfl rfl ?_
    refine j_i2l K d12_ahead_8 ?_
    refine j_lconst (v := 0) K d12_ahead_9 (by decide) ?_
    refine j_ldc2 (v := 100) K (List.mem_cons_of_mem _ mk12_368) d12_ahead_10 ?_
    obtain ⟨r2, e2, h⟩ := bo_e h
    refine mcalls_i K (c12_in_ok l D θ N (a2.toInt64) 0 100 _ e2) mG_in mh_in (by decide) (by decide) rfl (st := []) (Nat.le_of_ble_eq_true rfl) rfl d12_ahead_13 ?_
    refine j_if_eq (tgt := 43) K d12_ahead_16 (by decide) (fun q => ?_) (fun q => ?_)
    · have h := if_t h q
      refine j_iconst (v := (-1)) K d12_ahead_43 (by decide) ?_
      exact mret_i K h hr hlk d12_ahead_44
    · have h := if_f h q
      refine j_iload_n K 3 d12_ahead_19 rfl rfl ?_
      refine j_i2l K d12_ahead_20 ?_
      refine j_lconst (v := 0) K d12_ahead_21 (by decide) ?_
      refine j_ldc2 (v := 3) K (List.mem_cons_of_mem _ mk12_370) d12_ahead_22 ?_
      obtain ⟨r3, e3, h⟩ := bo_e h
      refine mcalls_i K (c12_in_ok l D θ N (a3.toInt64) 0 3 _ e3) mG_in mh_in (by decide) (by decide) rfl (st := []) (Nat.le_of_ble_eq_true rfl) rfl d12_ahead_25 ?_
      refine j_if_eq (tgt := 43) K d12_ahead_28 (by decide) (fun q => ?_) (fun q => ?_)
      · have h := if_t h q
        refine j_iconst (v := (-1)) K d12_ahead_43 (by decide) ?_
        exact mret_i K h hr hlk d12_ahead_44
      · have h := if_f h q
        refine j_iload_n K 3 d12_ahead_31 rfl rfl ?_
        refine j_if_ne (tgt := 45) K d12_ahead_32 (by decide) (fun q => ?_) (fun q => ?_)
        · have h := if_f h q
          exact t12_ahead_45 K hr hlk N ρ a1 a2 a3 μ1 h
        · have h := if_t h q
          refine j_aload_n K 0 d12_ahead_35 rfl rfl ?_
          refine j_iload_n K 1 d12_ahead_36 rfl rfl ?_
          obtain ⟨r16, μ16, e16, h⟩ := bd_e h
          refine mcall_i K (c12_isInBook_ok l D θ N a1 μ1 _ e16) mG_isInBook mh_isInBook (by decide) (by decide) rfl (st := []) (Nat.le_of_ble_eq_true rfl) rfl d12_ahead_37 ?_
          refine j_if_ne (tgt := 45) K d12_ahead_40 (by decide) (fun q => ?_) (fun q => ?_)
          · have h := if_f h q
            exact t12_ahead_45 K hr hlk N ρ a1 a2 a3 μ16 h
          · have h := if_t h q
            refine j_iconst (v := (-1)) K d12_ahead_43 (by decide) ?_
            exact mret_i K h hr hlk d12_ahead_44
def p12_allRight (N : Nat)  (μ : Mz) : Option (Int32 × Mz) := bd (p12_isBook N  μ) (fun r1 μ1 => if r1 = 0 then some ((-1), μ1) else bd (p12_rightIn N 1023 μ1) (fun r2 μ2 => some (r2, μ2)))
set_option maxHeartbeats 4000000 in
set_option maxRecDepth 100000 in
theorem c12_allRight_ok (l : Launch) (D : va_G) (θ : Th) (N : Nat)  (μ : Mz) (ρ : Int32 × Mz) (h : p12_allRight N  μ = some ρ) : CMi l D θ y12_allRight c12_allRight 1 (some .int) 9 [] μ ρ := by
  intro sz
  refine j_met l [.ref θ.1] (by decide +kernel) (Nat.le_of_ble_eq_true rfl) ?_
  intro p e s m args below meth c K hr hlk hnm hs
  generalize va_A (wM θ μ) sz = A at K ⊢
  have K : KM p s m args c c12_allRight 1 y12_allRight (some .int) D θ A := K
  show JM p l e s m args below meth c D θ A 9 1 (QMi below args s D θ A ρ) μ [(0, .ref θ.1)] [] 0
  unfold p12_allRight at h
  refine j_aload_n K 0 d12_allRight_0 rfl rfl ?_
  obtain ⟨r1, μ1, e1, h⟩ := bd_e h
  refine mcall_i K (c12_isBook_ok l D θ N  μ _ e1) mG_isBook mh_isBook (by decide) (by decide) rfl (st := []) (Nat.le_of_ble_eq_true rfl) rfl d12_allRight_1 ?_
  refine j_if_eq (tgt := 17) K d12_allRight_4 (by decide) (fun q => ?_) (fun q => ?_)
  · have h := if_t h q
    refine j_iconst (v := (-1)) K d12_allRight_17 (by decide) ?_
    exact mret_i K h hr hlk d12_allRight_18
  · have h := if_f h q
    refine j_aload_n K 0 d12_allRight_7 rfl rfl ?_
    refine j_sipush (v := 1023) K d12_allRight_8 (by decide) ?_
    obtain ⟨r2, μ2, e2, h⟩ := bd_e h
    refine mcall_i K (c12_rightIn_ok l D θ N 1023 μ1 _ e2) mG_rightIn mh_rightIn (by decide) (by decide) rfl (st := []) (Nat.le_of_ble_eq_true rfl) rfl d12_allRight_11 ?_
    refine j_goto (tgt := 18) K d12_allRight_14 (by decide) ?_
    exact mret_i K h hr hlk d12_allRight_18
def p12_firstRight (N : Nat) (a1 : Int32) (μ : Mz) : Option (Int32 × Mz) := bd (p12_isInBook N a1 μ) (fun r1 μ1 => if r1 = 0 then some ((-1), μ1) else bd (p12_rightIn N ((1 : Int32) <<< (a1 &&& 31)) μ1) (fun r2 μ2 => some (r2, μ2)))
set_option maxHeartbeats 4000000 in
set_option maxRecDepth 100000 in
theorem c12_firstRight_ok (l : Launch) (D : va_G) (θ : Th) (N : Nat) (a1 : Int32) (μ : Mz) (ρ : Int32 × Mz) (h : p12_firstRight N a1 μ = some ρ) : CMi l D θ y12_firstRight c12_firstRight 2 (some .int) 9 [.int a1] μ ρ := by
  intro sz
  refine j_met l [.ref θ.1, .int a1] (by decide +kernel) (Nat.le_of_ble_eq_true rfl) ?_
  intro p e s m args below meth c K hr hlk hnm hs
  generalize va_A (wM θ μ) sz = A at K ⊢
  have K : KM p s m args c c12_firstRight 2 y12_firstRight (some .int) D θ A := K
  show JM p l e s m args below meth c D θ A 9 2 (QMi below args s D θ A ρ) μ [(0, .ref θ.1), (1, .int a1)] [] 0
  unfold p12_firstRight at h
  refine j_aload_n K 0 d12_firstRight_0 rfl rfl ?_
  refine j_iload_n K 1 d12_firstRight_1 rfl rfl ?_
  obtain ⟨r1, μ1, e1, h⟩ := bd_e h
  refine mcall_i K (c12_isInBook_ok l D θ N a1 μ _ e1) mG_isInBook mh_isInBook (by decide) (by decide) rfl (st := []) (Nat.le_of_ble_eq_true rfl) rfl d12_firstRight_2 ?_
  refine j_if_eq (tgt := 18) K d12_firstRight_5 (by decide) (fun q => ?_) (fun q => ?_)
  · have h := if_t h q
    refine j_iconst (v := (-1)) K d12_firstRight_18 (by decide) ?_
    exact mret_i K h hr hlk d12_firstRight_19
  · have h := if_f h q
    refine j_aload_n K 0 d12_firstRight_8 rfl rfl ?_
    refine j_iconst (v := 1) K d12_firstRight_9 (by decide) ?_
    refine j_iload_n K 1 d12_firstRight_10 rfl rfl ?_
    refine j_ishl K d12_firstRight_11 ?_
    obtain ⟨r2, μ2, e2, h⟩ := bd_e h
    refine mcall_i K (c12_rightIn_ok l D θ N ((1 : Int32) <<< (a1 &&& 31)) μ1 _ e2) mG_rightIn mh_rightIn (by decide) (by decide) rfl (st := []) (Nat.le_of_ble_eq_true rfl) rfl d12_firstRight_12 ?_
    refine j_goto (tgt := 19) K d12_firstRight_15 (by decide) ?_
    exact mret_i K h hr hlk d12_firstRight_19
def p12_wrongIn (N : Nat) (a1 : Int32) (μ : Mz) : Option (Int32 × Mz) := bo (p12_passesAll N a1 μ) (fun μ1 => bd (p12_wrongOnes N  μ1) (fun r2 μ2 => bo (p12_bits N r2) (fun r3 => bo (p12_laysBack N  μ2) (fun μ4 => some (r3, μ4)))))
set_option maxHeartbeats 4000000 in
set_option maxRecDepth 100000 in
theorem c12_wrongIn_ok (l : Launch) (D : va_G) (θ : Th) (N : Nat) (a1 : Int32) (μ : Mz) (ρ : Int32 × Mz) (h : p12_wrongIn N a1 μ = some ρ) : CMi l D θ y12_wrongIn c12_wrongIn 3 (some .int) 9 [.int a1] μ ρ := by
  intro sz
  refine j_met l [.ref θ.1, .int a1] (by decide +kernel) (Nat.le_of_ble_eq_true rfl) ?_
  intro p e s m args below meth c K hr hlk hnm hs
  generalize va_A (wM θ μ) sz = A at K ⊢
  have K : KM p s m args c c12_wrongIn 3 y12_wrongIn (some .int) D θ A := K
  show JM p l e s m args below meth c D θ A 9 3 (QMi below args s D θ A ρ) μ [(0, .ref θ.1), (1, .int a1)] [] 0
  unfold p12_wrongIn at h
  refine j_aload_n K 0 d12_wrongIn_0 rfl rfl ?_
  refine j_iload_n K 1 d12_wrongIn_1 rfl rfl ?_
  obtain ⟨μ1, e1, h⟩ := bo_e h
  refine mcall_v K (c12_passesAll_ok l D θ N a1 μ _ e1) mG_passesAll mh_passesAll (by decide) (by decide) rfl (st := []) (Nat.le_of_ble_eq_true rfl) rfl d12_wrongIn_2 ?_
  refine j_aload_n K 0 d12_wrongIn_5 rfl rfl ?_
  obtain ⟨r2, μ2, e2, h⟩ := bd_e h
  refine mcall_i K (c12_wrongOnes_ok l D θ N  μ1 _ e2) mG_wrongOnes mh_wrongOnes (by decide) (by decide) rfl (st := []) (Nat.le_of_ble_eq_true rfl) rfl d12_wrongIn_6 ?_
  obtain ⟨r3, e3, h⟩ := bo_e h
  refine mcalls_i K (c12_bits_ok l D θ N r2 _ e3) mG_bits mh_bits (by decide) (by decide) rfl (st := []) (Nat.le_of_ble_eq_true rfl) rfl d12_wrongIn_9 ?_
  refine j_istore_n (lv' := [(2, .int r3), (0, .ref θ.1), (1, .int a1)]) K d12_wrongIn_12 rfl (by decide) rfl ?_
  refine j_aload_n K 1 d12_wrongIn_13 rfl rfl ?_
  obtain ⟨μ4, e4, h⟩ := bo_e h
  refine mcall_v K (c12_laysBack_ok l D θ N  μ2 _ e4) mG_laysBack mh_laysBack (by decide) (by decide) rfl (st := []) (Nat.le_of_ble_eq_true rfl) rfl d12_wrongIn_14 ?_
  refine j_iload_n K 0 d12_wrongIn_17 rfl rfl ?_
  exact mret_i K h hr hlk d12_wrongIn_18
def b12_leastPurse_30 (N : Nat) : Nat → Int32 → Int32 → Int32 → Mz → Option (Int32 × Mz)
  | 0, _, _, _, _ => none
  | n + 1, x1, x2, x3, μ => if 999 < x3 then some (x2, μ) else if 0 ≤ x2 then some (x2, μ) else lt (sa 7 (upd (ga 7 μ) (11 : Int32).toNatClampNeg x3) μ) (fun μ4 => bd (p12_isAllPaid N x1 μ4) (fun r5 μ5 => if r5 = 0 then bo (p12_laysBack N  μ5) (fun μ6 => lt (x3 + 1) (fun v7 => b12_leastPurse_30 N n x1 x2 v7 μ6)) else bo (p12_laysBack N  μ5) (fun μ8 => lt (x3 + 1) (fun v9 => b12_leastPurse_30 N n x1 x3 v9 μ8))))
set_option maxHeartbeats 4000000 in
set_option maxRecDepth 100000 in
theorem t12_leastPurse_30 {p : Program} {l : Launch} {e : Env} {s : State} {m : MethodId} {args : Array Value} {below : List Frame} {meth : Method} {c : Code} {D : va_G} {θ : Th} {A : Nat → Prop} (K : KM p s m args c c12_leastPurse 4 y12_leastPurse (some .int) D θ A) (hr : meth.sig.returnType = (some .int)) (hlk : meth.locks = false) (N : Nat) (ρ : Int32 × Mz) : ∀ (n : Nat) (x1 : Int32) (x2 : Int32) (x3 : Int32) (μ : Mz), b12_leastPurse_30 N n x1 x2 x3 μ = some ρ → JM p l e s m args below meth c D θ A 9 4 (QMi below args s D θ A ρ) μ [(0, .ref θ.1), (1, .int x1), (2, .int x2), (3, .int x3)] [] 30 := by
  intro n
  induction n with
  | zero =>
    intro x1 x2 x3 μ h
    exact absurd h (by simp [b12_leastPurse_30])
  | succ n ih =>
    intro x1 x2 x3 μ h
    rw [b12_leastPurse_30] at h
    refine j_iload_n K 3 d12_leastPurse_30 rfl rfl ?_
    refine j_sipush (v := 999) K d12_leastPurse_31 (by decide) ?_
    refine j_icmp_gt (tgt := 69) K d12_leastPurse_34 (by decide) (fun q => ?_) (fun q => ?_)
    · have h := if_t h q
      refine j_iload_n K 2 d12_leastPurse_69 rfl rfl ?_
      exact mret_i K h hr hlk d12_leastPurse_70
    · have h := if_f h q
      refine j_iload_n K 2 d12_leastPurse_37 rfl rfl ?_
      refine j_if_ge (tgt := 69) K d12_leastPurse_38 (by decide) (fun q => ?_) (fun q => ?_)
      · have h := if_t h q
        refine j_iload_n K 2 d12_leastPurse_69 rfl rfl ?_
        exact mret_i K h hr hlk d12_leastPurse_70
      · have h := if_f h q
        refine j_aload_n K 0 d12_leastPurse_41 rfl rfl ?_
        refine mg_said K d12_leastPurse_42 ?_
        refine j_bipush (v := 11) K d12_leastPurse_45 (by decide) ?_
        refine j_iload_n K 3 d12_leastPurse_47 rfl rfl ?_
        obtain ⟨μ4, e4, h⟩ := lt_e h
        refine ms_said K (inb_e (by decide)) d12_leastPurse_48 e4 ?_
        refine j_aload_n K 0 d12_leastPurse_49 rfl rfl ?_
        refine j_iload_n K 1 d12_leastPurse_50 rfl rfl ?_
        obtain ⟨r5, μ5, e5, h⟩ := bd_e h
        refine mcall_i K (c12_isAllPaid_ok l D θ N x1 μ4 _ e5) mG_isAllPaid mh_isAllPaid (by decide) (by decide) rfl (st := []) (Nat.le_of_ble_eq_true rfl) rfl d12_leastPurse_51 ?_
        refine j_if_eq (tgt := 59) K d12_leastPurse_54 (by decide) (fun q => ?_) (fun q => ?_)
        · have h := if_t h q
          refine j_aload_n K 0 d12_leastPurse_59 rfl rfl ?_
          obtain ⟨μ6, e6, h⟩ := bo_e h
          refine mcall_v K (c12_laysBack_ok l D θ N  μ5 _ e6) mG_laysBack mh_laysBack (by decide) (by decide) rfl (st := []) (Nat.le_of_ble_eq_true rfl) rfl d12_leastPurse_60 ?_
          obtain ⟨v7, e7, h⟩ := lt_e h
          refine j_iinc (k := 3) (v := v7) (lv' := [(3, .int v7), (0, .ref θ.1), (1, .int x1), (2, .int x2)]) K d12_leastPurse_63 rfl (by rw [e7]; rfl) (by decide) rfl ?_
          refine j_goto (tgt := 30) K d12_leastPurse_66 (by decide) ?_
          refine j_sub [1, 2, 3, 0] rfl ?_
          exact ih x1 x2 v7 μ6 h
        · have h := if_f h q
          refine j_iload_n K 3 d12_leastPurse_57 rfl rfl ?_
          refine j_istore_n (lv' := [(2, .int x3), (0, .ref θ.1), (1, .int x1), (3, .int x3)]) K d12_leastPurse_58 rfl (by decide) rfl ?_
          refine j_aload_n K 1 d12_leastPurse_59 rfl rfl ?_
          obtain ⟨μ8, e8, h⟩ := bo_e h
          refine mcall_v K (c12_laysBack_ok l D θ N  μ5 _ e8) mG_laysBack mh_laysBack (by decide) (by decide) rfl (st := []) (Nat.le_of_ble_eq_true rfl) rfl d12_leastPurse_60 ?_
          obtain ⟨v9, e9, h⟩ := lt_e h
          refine j_iinc (k := 3) (v := v9) (lv' := [(3, .int v9), (2, .int x3), (0, .ref θ.1), (1, .int x1)]) K d12_leastPurse_63 rfl (by rw [e9]; rfl) (by decide) rfl ?_
          refine j_goto (tgt := 30) K d12_leastPurse_66 (by decide) ?_
          refine j_sub [2, 3, 1, 0] rfl ?_
          exact ih x1 x3 v9 μ8 h
def p12_leastPurse (N : Nat) (a1 : Int32) (μ : Mz) : Option (Int32 × Mz) := bd (p12_isBook N  μ) (fun r1 μ1 => if r1 = 0 then some ((-1), μ1) else bo (p12_in N (a1.toInt64) 1 40) (fun r2 => if r2 = 0 then some ((-1), μ1) else bo (p12_keeps N  μ1) (fun μ3 => b12_leastPurse_30 N N a1 (-2) 0 μ3)))
set_option maxHeartbeats 4000000 in
set_option maxRecDepth 100000 in
theorem c12_leastPurse_ok (l : Launch) (D : va_G) (θ : Th) (N : Nat) (a1 : Int32) (μ : Mz) (ρ : Int32 × Mz) (h : p12_leastPurse N a1 μ = some ρ) : CMi l D θ y12_leastPurse c12_leastPurse 4 (some .int) 9 [.int a1] μ ρ := by
  intro sz
  refine j_met l [.ref θ.1, .int a1] (by decide +kernel) (Nat.le_of_ble_eq_true rfl) ?_
  intro p e s m args below meth c K hr hlk hnm hs
  generalize va_A (wM θ μ) sz = A at K ⊢
  have K : KM p s m args c c12_leastPurse 4 y12_leastPurse (some .int) D θ A := K
  show JM p l e s m args below meth c D θ A 9 4 (QMi below args s D θ A ρ) μ [(0, .ref θ.1), (1, .int a1)] [] 0
  unfold p12_leastPurse at h
  refine j_aload_n K 0 d12_leastPurse_0 rfl rfl ?_
  obtain ⟨r1, μ1, e1, h⟩ := bd_e h
  refine mcall_i K (c12_isBook_ok l D θ N  μ _ e1) mG_isBook mh_isBook (by decide) (by decide) rfl (st := []) (Nat.le_of_ble_eq_true rfl) rfl d12_leastPurse_1 ?_
  refine j_if_eq (tgt := 19) K d12_leastPurse_4 (by decide) (fun q => ?_) (fun q => ?_)
  · have h := if_t h q
    refine j_iconst (v := (-1)) K d12_leastPurse_19 (by decide) ?_
    exact mret_i K h hr hlk d12_leastPurse_20
  · have h := if_f h q
    refine j_iload_n K 1 d12_leastPurse_7 rfl rfl ?_
    refine j_i2l K d12_leastPurse_8 ?_
    refine j_lconst (v := 1) K d12_leastPurse_9 (by decide) ?_
    refine j_ldc2 (v := 40) K (List.mem_cons_of_mem _ mk12_409) d12_leastPurse_10 ?_
    obtain ⟨r2, e2, h⟩ := bo_e h
    refine mcalls_i K (c12_in_ok l D θ N (a1.toInt64) 1 40 _ e2) mG_in mh_in (by decide) (by decide) rfl (st := []) (Nat.le_of_ble_eq_true rfl) rfl d12_leastPurse_13 ?_
    refine j_if_ne (tgt := 21) K d12_leastPurse_16 (by decide) (fun q => ?_) (fun q => ?_)
    · have h := if_f h q
      refine j_bipush (v := (-2)) K d12_leastPurse_21 (by decide) ?_
      refine j_istore_n (lv' := [(2, .int (-2)), (0, .ref θ.1), (1, .int a1)]) K d12_leastPurse_23 rfl (by decide) rfl ?_
      refine j_aload_n K 1 d12_leastPurse_24 rfl rfl ?_
      obtain ⟨μ3, e3, h⟩ := bo_e h
      refine mcall_v K (c12_keeps_ok l D θ N  μ1 _ e3) mG_keeps mh_keeps (by decide) (by decide) rfl (st := []) (Nat.le_of_ble_eq_true rfl) rfl d12_leastPurse_25 ?_
      refine j_iconst (v := 0) K d12_leastPurse_28 (by decide) ?_
      refine j_istore_n (lv' := [(3, .int 0), (2, .int (-2)), (0, .ref θ.1), (1, .int a1)]) K d12_leastPurse_29 rfl (by decide) rfl ?_
      refine j_sub [2, 3, 1, 0] rfl ?_
      exact t12_leastPurse_30 K hr hlk N ρ N a1 (-2) 0 μ3 h
    · have h := if_t h q
      refine j_iconst (v := (-1)) K d12_leastPurse_19 (by decide) ?_
      exact mret_i K h hr hlk d12_leastPurse_20
def b12_rests_87 (N : Nat) : Nat → Int32 → Int32 → Int32 → Int32 → Mz → Option (Int32 × Mz)
  | 0, _, _, _, _, _ => none
  | n + 1, x4, x5, x6, x7, μ => if x7 < 0 then if x4 = 0 then some (x5, μ) else if 0 ≤ x6 then if x4 = 1 then some (x6 / 8, μ) else some (x6 - x6 / 8 * 8, μ) else some ((-2), μ) else bd (p12_isRest N (x7 / 8) (x7 - x7 / 8 * 8) μ) (fun r6 μ6 => if r6 = 0 then lt (x7 + (-1)) (fun v9 => b12_rests_87 N n x4 x5 x6 v9 μ6) else lt (x5 + 1) (fun v7 => lt (x7 + (-1)) (fun v8 => b12_rests_87 N n x4 v7 x7 v8 μ6)))
set_option maxHeartbeats 4000000 in
set_option maxRecDepth 100000 in
theorem t12_rests_87 {p : Program} {l : Launch} {e : Env} {s : State} {m : MethodId} {args : Array Value} {below : List Frame} {meth : Method} {c : Code} {D : va_G} {θ : Th} {A : Nat → Prop} (K : KM p s m args c c12_rests 8 y12_rests (some .int) D θ A) (hr : meth.sig.returnType = (some .int)) (hlk : meth.locks = false) (N : Nat) (ρ : Int32 × Mz) : ∀ (n : Nat) (x4 : Int32) (x5 : Int32) (x6 : Int32) (x7 : Int32) (μ : Mz), b12_rests_87 N n x4 x5 x6 x7 μ = some ρ → JM p l e s m args below meth c D θ A 9 8 (QMi below args s D θ A ρ) μ [(0, .ref θ.1), (4, .int x4), (5, .int x5), (6, .int x6), (7, .int x7)] [] 87 := by
  intro n
  induction n with
  | zero =>
    intro x4 x5 x6 x7 μ h
    exact absurd h (by simp [b12_rests_87])
  | succ n ih =>
    intro x4 x5 x6 x7 μ h
    rw [b12_rests_87] at h
    refine j_iload K 4 d12_rests_87 rfl ?_
    refine j_if_lt (tgt := 125) K d12_rests_89 (by decide) (fun q => ?_) (fun q => ?_)
    · have h := if_t h q
      refine j_iload K 1 d12_rests_125 rfl ?_
      refine j_if_ne (tgt := 133) K d12_rests_127 (by decide) (fun q => ?_) (fun q => ?_)
      · have h := if_f h q
        refine j_iload K 3 d12_rests_133 rfl ?_
        refine j_if_ge (tgt := 143) K d12_rests_135 (by decide) (fun q => ?_) (fun q => ?_)
        · have h := if_t h q
          refine j_iload K 1 d12_rests_143 rfl ?_
          refine j_iconst (v := 1) K d12_rests_145 (by decide) ?_
          refine j_icmp_ne (tgt := 157) K d12_rests_146 (by decide) (fun q => ?_) (fun q => ?_)
          · have h := if_f h q
            refine j_iload K 3 d12_rests_157 rfl ?_
            refine j_bipush (v := 8) K d12_rests_159 (by decide) ?_
            refine j_irem K d12_rests_161 (by decide) ?_
            exact mret_i K h hr hlk d12_rests_162
          · have h := if_t h q
            refine j_iload K 3 d12_rests_149 rfl ?_
            refine j_bipush (v := 8) K d12_rests_151 (by decide) ?_
            refine j_idiv K d12_rests_153 (by decide) ?_
            refine j_goto (tgt := 162) K d12_rests_154 (by decide) ?_
            exact mret_i K h hr hlk d12_rests_162
        · have h := if_f h q
          refine j_bipush (v := (-2)) K d12_rests_138 (by decide) ?_
          refine j_goto (tgt := 162) K d12_rests_140 (by decide) ?_
          exact mret_i K h hr hlk d12_rests_162
      · have h := if_t h q
        refine j_iload K 2 d12_rests_130 rfl ?_
        exact mret_i K h hr hlk d12_rests_132
    · have h := if_f h q
      refine j_aload_n K 0 d12_rests_92 rfl rfl ?_
      refine j_iload K 4 d12_rests_93 rfl ?_
      refine j_bipush (v := 8) K d12_rests_95 (by decide) ?_
      refine j_idiv K d12_rests_97 (by decide) ?_
      refine j_iload K 4 d12_rests_98 rfl ?_
      refine j_bipush (v := 8) K d12_rests_100 (by decide) ?_
      refine j_irem K d12_rests_102 (by decide) ?_
      obtain ⟨r6, μ6, e6, h⟩ := bd_e h
      refine mcall_i K (c12_isRest_ok l D θ N (x7 / 8) (x7 - x7 / 8 * 8) μ _ e6) mG_isRest mh_isRest (by decide) (by decide) rfl (st := []) (Nat.le_of_ble_eq_true rfl) rfl d12_rests_103 ?_
      refine j_if_ne (tgt := 112) K d12_rests_106 (by decide) (fun q => ?_) (fun q => ?_)
      · have h := if_f h q
        refine j_iload K 4 d12_rests_112 rfl ?_
        refine j_istore (lv' := [(6, .int x7), (0, .ref θ.1), (4, .int x4), (5, .int x5), (7, .int x7)]) K d12_rests_114 (by decide) rfl ?_
        obtain ⟨v7, e7, h⟩ := lt_e h
        refine j_iinc (k := 3) (v := v7) (lv' := [(5, .int v7), (6, .int x7), (0, .ref θ.1), (4, .int x4), (7, .int x7)]) K d12_rests_116 rfl (by rw [e7]; rfl) (by decide) rfl ?_
        obtain ⟨v8, e8, h⟩ := lt_e h
        refine j_iinc (k := 4) (v := v8) (lv' := [(7, .int v8), (5, .int v7), (6, .int x7), (0, .ref θ.1), (4, .int x4)]) K d12_rests_119 rfl (by rw [e8]; rfl) (by decide) rfl ?_
        refine j_goto (tgt := 87) K d12_rests_122 (by decide) ?_
        refine j_sub [3, 4, 1, 2, 0] rfl ?_
        exact ih x4 v7 x7 v8 μ6 h
      · have h := if_t h q
        refine j_goto (tgt := 119) K d12_rests_109 (by decide) ?_
        obtain ⟨v9, e9, h⟩ := lt_e h
        refine j_iinc (k := 4) (v := v9) (lv' := [(7, .int v9), (0, .ref θ.1), (4, .int x4), (5, .int x5), (6, .int x6)]) K d12_rests_119 rfl (by rw [e9]; rfl) (by decide) rfl ?_
        refine j_goto (tgt := 87) K d12_rests_122 (by decide) ?_
        refine j_sub [1, 2, 3, 4, 0] rfl ?_
        exact ih x4 x5 x6 v9 μ6 h
def b12_rests_55 (N : Nat) : Nat → Int32 → Int32 → Int32 → Int32 → Int32 → Mz → Option (Int32 × Mz)
  | 0, _, _, _, _, _, _ => none
  | n + 1, x1, x2, x3, x4, x5, μ => if 64 ≤ x5 then b12_rests_87 N N x4 0 (-1) 63 μ else bo (p12_fillsRest N x1 x2 x5 x3 μ) (fun μ10 => lt (x5 + 1) (fun v11 => b12_rests_55 N n x1 x2 x3 x4 v11 μ10))
set_option maxHeartbeats 4000000 in
set_option maxRecDepth 100000 in
theorem t12_rests_55 {p : Program} {l : Launch} {e : Env} {s : State} {m : MethodId} {args : Array Value} {below : List Frame} {meth : Method} {c : Code} {D : va_G} {θ : Th} {A : Nat → Prop} (K : KM p s m args c c12_rests 8 y12_rests (some .int) D θ A) (hr : meth.sig.returnType = (some .int)) (hlk : meth.locks = false) (N : Nat) (ρ : Int32 × Mz) : ∀ (n : Nat) (x1 : Int32) (x2 : Int32) (x3 : Int32) (x4 : Int32) (x5 : Int32) (μ : Mz), b12_rests_55 N n x1 x2 x3 x4 x5 μ = some ρ → JM p l e s m args below meth c D θ A 9 8 (QMi below args s D θ A ρ) μ [(0, .ref θ.1), (1, .int x1), (2, .int x2), (3, .int x3), (4, .int x4), (5, .int x5)] [] 55 := by
  intro n
  induction n with
  | zero =>
    intro x1 x2 x3 x4 x5 μ h
    exact absurd h (by simp [b12_rests_55])
  | succ n ih =>
    intro x1 x2 x3 x4 x5 μ h
    rw [b12_rests_55] at h
    refine j_iload K 5 d12_rests_55 rfl ?_
    refine j_bipush (v := 64) K d12_rests_57 (by decide) ?_
    refine j_icmp_ge (tgt := 77) K d12_rests_59 (by decide) (fun q => ?_) (fun q => ?_)
    · have h := if_t h q
      refine j_iconst (v := 0) K d12_rests_77 (by decide) ?_
      refine j_istore (lv' := [(5, .int 0), (0, .ref θ.1), (1, .int x1), (2, .int x2), (3, .int x3), (4, .int x4)]) K d12_rests_78 (by decide) rfl ?_
      refine j_iconst (v := (-1)) K d12_rests_80 (by decide) ?_
      refine j_istore (lv' := [(6, .int (-1)), (5, .int 0), (0, .ref θ.1), (1, .int x1), (2, .int x2), (3, .int x3), (4, .int x4)]) K d12_rests_81 (by decide) rfl ?_
      refine j_bipush (v := 63) K d12_rests_83 (by decide) ?_
      refine j_istore (lv' := [(7, .int 63), (6, .int (-1)), (5, .int 0), (0, .ref θ.1), (1, .int x1), (2, .int x2), (3, .int x3), (4, .int x4)]) K d12_rests_85 (by decide) rfl ?_
      refine j_sub [3, 7, 2, 1, 0] rfl ?_
      exact t12_rests_87 K hr hlk N ρ N x4 0 (-1) 63 μ h
    · have h := if_f h q
      refine j_aload_n K 0 d12_rests_62 rfl rfl ?_
      refine j_iload_n K 1 d12_rests_63 rfl rfl ?_
      refine j_iload_n K 2 d12_rests_64 rfl rfl ?_
      refine j_iload K 5 d12_rests_65 rfl ?_
      refine j_iload_n K 3 d12_rests_67 rfl rfl ?_
      obtain ⟨μ10, e10, h⟩ := bo_e h
      refine mcall_v K (c12_fillsRest_ok l D θ N x1 x2 x5 x3 μ _ e10) mG_fillsRest mh_fillsRest (by decide) (by decide) rfl (st := []) (Nat.le_of_ble_eq_true rfl) rfl d12_rests_68 ?_
      obtain ⟨v11, e11, h⟩ := lt_e h
      refine j_iinc (k := 5) (v := v11) (lv' := [(5, .int v11), (0, .ref θ.1), (1, .int x1), (2, .int x2), (3, .int x3), (4, .int x4)]) K d12_rests_71 rfl (by rw [e11]; rfl) (by decide) rfl ?_
      refine j_goto (tgt := 55) K d12_rests_74 (by decide) ?_
      refine j_sub [1, 2, 3, 4, 5, 0] rfl ?_
      exact ih x1 x2 x3 x4 v11 μ10 h
def p12_rests (N : Nat) (a1 : Int32) (a2 : Int32) (a3 : Int32) (a4 : Int32) (μ : Mz) : Option (Int32 × Mz) := bd (p12_isInBook N a1 μ) (fun r1 μ1 => if r1 = 0 then some ((-1), μ1) else bd (p12_isInBook N a2 μ1) (fun r2 μ2 => if r2 = 0 then some ((-1), μ2) else if a1 = a2 then some ((-1), μ2) else bo (p12_in N (a3.toInt64) 1 20) (fun r3 => if r3 = 0 then some ((-1), μ2) else bo (p12_in N (a4.toInt64) 0 2) (fun r4 => if r4 = 0 then some ((-1), μ2) else bo (p12_keeps N  μ2) (fun μ5 => b12_rests_55 N N a1 a2 a3 a4 0 μ5)))))
set_option maxHeartbeats 4000000 in
set_option maxRecDepth 100000 in
theorem c12_rests_ok (l : Launch) (D : va_G) (θ : Th) (N : Nat) (a1 : Int32) (a2 : Int32) (a3 : Int32) (a4 : Int32) (μ : Mz) (ρ : Int32 × Mz) (h : p12_rests N a1 a2 a3 a4 μ = some ρ) : CMi l D θ y12_rests c12_rests 8 (some .int) 9 [.int a1, .int a2, .int a3, .int a4] μ ρ := by
  intro sz
  refine j_met l [.ref θ.1, .int a1, .int a2, .int a3, .int a4] (by decide +kernel) (Nat.le_of_ble_eq_true rfl) ?_
  intro p e s m args below meth c K hr hlk hnm hs
  generalize va_A (wM θ μ) sz = A at K ⊢
  have K : KM p s m args c c12_rests 8 y12_rests (some .int) D θ A := K
  show JM p l e s m args below meth c D θ A 9 8 (QMi below args s D θ A ρ) μ [(0, .ref θ.1), (1, .int a1), (2, .int a2), (3, .int a3), (4, .int a4)] [] 0
  unfold p12_rests at h
  refine j_aload_n K 0 d12_rests_0 rfl rfl ?_
  refine j_iload_n K 1 d12_rests_1 rfl rfl ?_
  obtain ⟨r1, μ1, e1, h⟩ := bd_e h
  refine mcall_i K (c12_isInBook_ok l D θ N a1 μ _ e1) mG_isInBook mh_isInBook (by decide) (by decide) rfl (st := []) (Nat.le_of_ble_eq_true rfl) rfl d12_rests_2 ?_
  refine j_if_eq (tgt := 46) K d12_rests_5 (by decide) (fun q => ?_) (fun q => ?_)
  · have h := if_t h q
    refine j_iconst (v := (-1)) K d12_rests_46 (by decide) ?_
    exact mret_i K h hr hlk d12_rests_47
  · have h := if_f h q
    refine j_aload_n K 0 d12_rests_8 rfl rfl ?_
    refine j_iload_n K 2 d12_rests_9 rfl rfl ?_
    obtain ⟨r2, μ2, e2, h⟩ := bd_e h
    refine mcall_i K (c12_isInBook_ok l D θ N a2 μ1 _ e2) mG_isInBook mh_isInBook (by decide) (by decide) rfl (st := []) (Nat.le_of_ble_eq_true rfl) rfl d12_rests_10 ?_
    refine j_if_eq (tgt := 46) K d12_rests_13 (by decide) (fun q => ?_) (fun q => ?_)
    · have h := if_t h q
      refine j_iconst (v := (-1)) K d12_rests_46 (by decide) ?_
      exact mret_i K h hr hlk d12_rests_47
    · have h := if_f h q
      refine j_iload_n K 1 d12_rests_16 rfl rfl ?_
      refine j_iload_n K 2 d12_rests_17 rfl rfl ?_
      refine j_icmp_eq (tgt := 46) K d12_rests_18 (by decide) (fun q => ?_) (fun q => ?_)
      · have h := if_t h q
        refine j_iconst (v := (-1)) K d12_rests_46 (by decide) ?_
        exact mret_i K h hr hlk d12_rests_47
      · have h := if_f h q
        refine j_iload_n K 3 d12_rests_21 rfl rfl ?_
        refine j_i2l K d12_rests_22 ?_
        refine j_lconst (v := 1) K d12_rests_23 (by decide) ?_
        refine j_ldc2 (v := 20) K (List.mem_cons_of_mem _ mk12_420) d12_rests_24 ?_
        obtain ⟨r3, e3, h⟩ := bo_e h
        refine mcalls_i K (c12_in_ok l D θ N (a3.toInt64) 1 20 _ e3) mG_in mh_in (by decide) (by decide) rfl (st := []) (Nat.le_of_ble_eq_true rfl) rfl d12_rests_27 ?_
        refine j_if_eq (tgt := 46) K d12_rests_30 (by decide) (fun q => ?_) (fun q => ?_)
        · have h := if_t h q
          refine j_iconst (v := (-1)) K d12_rests_46 (by decide) ?_
          exact mret_i K h hr hlk d12_rests_47
        · have h := if_f h q
          refine j_iload K 4 d12_rests_33 rfl ?_
          refine j_i2l K d12_rests_35 ?_
          refine j_lconst (v := 0) K d12_rests_36 (by decide) ?_
          refine j_ldc2 (v := 2) K (List.mem_cons_of_mem _ mk12_398) d12_rests_37 ?_
          obtain ⟨r4, e4, h⟩ := bo_e h
          refine mcalls_i K (c12_in_ok l D θ N (a4.toInt64) 0 2 _ e4) mG_in mh_in (by decide) (by decide) rfl (st := []) (Nat.le_of_ble_eq_true rfl) rfl d12_rests_40 ?_
          refine j_if_ne (tgt := 48) K d12_rests_43 (by decide) (fun q => ?_) (fun q => ?_)
          · have h := if_f h q
            refine j_aload_n K 0 d12_rests_48 rfl rfl ?_
            obtain ⟨μ5, e5, h⟩ := bo_e h
            refine mcall_v K (c12_keeps_ok l D θ N  μ2 _ e5) mG_keeps mh_keeps (by decide) (by decide) rfl (st := []) (Nat.le_of_ble_eq_true rfl) rfl d12_rests_49 ?_
            refine j_iconst (v := 0) K d12_rests_52 (by decide) ?_
            refine j_istore (lv' := [(5, .int 0), (0, .ref θ.1), (1, .int a1), (2, .int a2), (3, .int a3), (4, .int a4)]) K d12_rests_53 (by decide) rfl ?_
            refine j_sub [1, 2, 3, 4, 5, 0] rfl ?_
            exact t12_rests_55 K hr hlk N ρ N a1 a2 a3 a4 0 μ5 h
          · have h := if_t h q
            refine j_iconst (v := (-1)) K d12_rests_46 (by decide) ?_
            exact mret_i K h hr hlk d12_rests_47
def b12_fillsFits_11 (N : Nat) : Nat → Int32 → Int32 → Int32 → Mz → Option (Mz)
  | 0, _, _, _, _ => none
  | n + 1, x1, x2, x3, μ => if (gi 1 μ) < x3 then lt (si 11 x2 μ) (fun μ3 => bo (p12_laysBack N  μ3) (fun μ4 => some μ4)) else lt (si 11 (x3 - 1) μ) (fun μ5 => bo (p12_begins N  μ5) (fun μ6 => bd (p12_areAllSo N x3 x1 μ6) (fun r7 μ7 => ck (inb x3 7) (lt (sa 15 (upd (ga 15 μ7) x3.toNatClampNeg (vp_nar .boolean r7)) μ7) (fun μ9 => lt (x3 + 1) (fun v10 => b12_fillsFits_11 N n x1 x2 v10 μ9))))))
set_option maxHeartbeats 4000000 in
set_option maxRecDepth 100000 in
theorem t12_fillsFits_11 {p : Program} {l : Launch} {e : Env} {s : State} {m : MethodId} {args : Array Value} {below : List Frame} {meth : Method} {c : Code} {D : va_G} {θ : Th} {A : Nat → Prop} (K : KM p s m args c c12_fillsFits 4 y12_fillsFits none D θ A) (hr : meth.sig.returnType = none) (hlk : meth.locks = false) (N : Nat) (ρ : Mz) : ∀ (n : Nat) (x1 : Int32) (x2 : Int32) (x3 : Int32) (μ : Mz), b12_fillsFits_11 N n x1 x2 x3 μ = some ρ → JM p l e s m args below meth c D θ A 9 4 (QMv below args s D θ A ρ) μ [(0, .ref θ.1), (1, .int x1), (2, .int x2), (3, .int x3)] [] 11 := by
  intro n
  induction n with
  | zero =>
    intro x1 x2 x3 μ h
    exact absurd h (by simp [b12_fillsFits_11])
  | succ n ih =>
    intro x1 x2 x3 μ h
    rw [b12_fillsFits_11] at h
    refine j_iload_n K 3 d12_fillsFits_11 rfl rfl ?_
    refine j_aload_n K 0 d12_fillsFits_12 rfl rfl ?_
    refine mg_rules K d12_fillsFits_13 ?_
    refine j_icmp_gt (tgt := 48) K d12_fillsFits_16 (by decide) (fun q => ?_) (fun q => ?_)
    · have h := if_t h q
      refine j_aload_n K 0 d12_fillsFits_48 rfl rfl ?_
      refine j_iload_n K 2 d12_fillsFits_49 rfl rfl ?_
      obtain ⟨μ3, e3, h⟩ := lt_e h
      refine mp_force K d12_fillsFits_50 e3 ?_
      refine j_aload_n K 0 d12_fillsFits_53 rfl rfl ?_
      obtain ⟨μ4, e4, h⟩ := bo_e h
      refine mcall_v K (c12_laysBack_ok l D θ N  μ3 _ e4) mG_laysBack mh_laysBack (by decide) (by decide) rfl (st := []) (Nat.le_of_ble_eq_true rfl) rfl d12_fillsFits_54 ?_
      exact mret_v K h hr hlk d12_fillsFits_57
    · have h := if_f h q
      refine j_aload_n K 0 d12_fillsFits_19 rfl rfl ?_
      refine j_iload_n K 3 d12_fillsFits_20 rfl rfl ?_
      refine j_iconst (v := 1) K d12_fillsFits_21 (by decide) ?_
      refine j_isub K d12_fillsFits_22 ?_
      obtain ⟨μ5, e5, h⟩ := lt_e h
      refine mp_force K d12_fillsFits_23 e5 ?_
      refine j_aload_n K 0 d12_fillsFits_26 rfl rfl ?_
      obtain ⟨μ6, e6, h⟩ := bo_e h
      refine mcall_v K (c12_begins_ok l D θ N  μ5 _ e6) mG_begins mh_begins (by decide) (by decide) rfl (st := []) (Nat.le_of_ble_eq_true rfl) rfl d12_fillsFits_27 ?_
      refine j_aload_n K 0 d12_fillsFits_30 rfl rfl ?_
      refine mg_isFit K d12_fillsFits_31 ?_
      refine j_iload_n K 3 d12_fillsFits_34 rfl rfl ?_
      refine j_aload_n K 0 d12_fillsFits_35 rfl rfl ?_
      refine j_iload_n K 3 d12_fillsFits_36 rfl rfl ?_
      refine j_iload_n K 1 d12_fillsFits_37 rfl rfl ?_
      obtain ⟨r7, μ7, e7, h⟩ := bd_e h
      refine mcall_i K (c12_areAllSo_ok l D θ N x3 x1 μ6 _ e7) mG_areAllSo mh_areAllSo (by decide) (by decide) rfl (st := [.int x3, .ref (θ.2.1 17)]) (Nat.le_of_ble_eq_true rfl) rfl d12_fillsFits_38 ?_
      obtain ⟨q8, h⟩ := ck_e h
      obtain ⟨μ9, e9, h⟩ := lt_e h
      refine ms_isFit K (inb_e q8) d12_fillsFits_41 e9 ?_
      obtain ⟨v10, e10, h⟩ := lt_e h
      refine j_iinc (k := 3) (v := v10) (lv' := [(3, .int v10), (0, .ref θ.1), (1, .int x1), (2, .int x2)]) K d12_fillsFits_42 rfl (by rw [e10]; rfl) (by decide) rfl ?_
      refine j_goto (tgt := 11) K d12_fillsFits_45 (by decide) ?_
      refine j_sub [1, 2, 3, 0] rfl ?_
      exact ih x1 x2 v10 μ9 h
def p12_fillsFits (N : Nat) (a1 : Int32) (μ : Mz) : Option (Mz) := lt (gi 11 μ) (fun v1 => bo (p12_keeps N  μ) (fun μ2 => b12_fillsFits_11 N N a1 v1 0 μ2))
set_option maxHeartbeats 4000000 in
set_option maxRecDepth 100000 in
theorem c12_fillsFits_ok (l : Launch) (D : va_G) (θ : Th) (N : Nat) (a1 : Int32) (μ : Mz) (ρ : Mz) (h : p12_fillsFits N a1 μ = some ρ) : CMv l D θ y12_fillsFits c12_fillsFits 4 none 9 [.int a1] μ ρ := by
  intro sz
  refine j_met l [.ref θ.1, .int a1] (by decide +kernel) (Nat.le_of_ble_eq_true rfl) ?_
  intro p e s m args below meth c K hr hlk hnm hs
  generalize va_A (wM θ μ) sz = A at K ⊢
  have K : KM p s m args c c12_fillsFits 4 y12_fillsFits none D θ A := K
  show JM p l e s m args below meth c D θ A 9 4 (QMv below args s D θ A ρ) μ [(0, .ref θ.1), (1, .int a1)] [] 0
  unfold p12_fillsFits at h
  refine j_aload_n K 0 d12_fillsFits_0 rfl rfl ?_
  refine mg_force K d12_fillsFits_1 ?_
  obtain ⟨v1, e1, h⟩ := lt_e h
  refine j_eqi e1 ?_
  refine j_istore_n (lv' := [(2, .int v1), (0, .ref θ.1), (1, .int a1)]) K d12_fillsFits_4 rfl (by decide) rfl ?_
  refine j_aload_n K 1 d12_fillsFits_5 rfl rfl ?_
  obtain ⟨μ2, e2, h⟩ := bo_e h
  refine mcall_v K (c12_keeps_ok l D θ N  μ _ e2) mG_keeps mh_keeps (by decide) (by decide) rfl (st := []) (Nat.le_of_ble_eq_true rfl) rfl d12_fillsFits_6 ?_
  refine j_iconst (v := 0) K d12_fillsFits_9 (by decide) ?_
  refine j_istore_n (lv' := [(3, .int 0), (2, .int v1), (0, .ref θ.1), (1, .int a1)]) K d12_fillsFits_10 rfl (by decide) rfl ?_
  refine j_sub [2, 3, 1, 0] rfl ?_
  exact t12_fillsFits_11 K hr hlk N ρ N a1 v1 0 μ2 h
def b12_putAs_29 (N : Nat) : Nat → Int32 → Int32 → Int32 → Int32 → Mz → Option (Int32 × Mz)
  | 0, _, _, _, _, _ => none
  | n + 1, x1, x2, x3, x4, μ => if 8 ≤ x4 then ck (inb (53 + x1) 129) (lt (sa 7 (upd (ga 7 μ) (53 + x1).toNatClampNeg x2) μ) (fun μ7 => bo (p12_laysBack N  μ7) (fun μ8 => some (x3, μ8)))) else ck (inb (53 + x1) 129) (lt (sa 7 (upd (ga 7 μ) (53 + x1).toNatClampNeg x4) μ) (fun μ10 => bo (p12_begins N  μ10) (fun μ11 => bd (p12_areAllSo N 0 (-1) μ11) (fun r12 μ12 => if r12 = 0 then lt (x4 + 1) (fun v13 => b12_putAs_29 N n x1 x2 x3 v13 μ12) else lt (x3 ||| ((1 : Int32) <<< (x4 &&& 31))) (fun v14 => lt (x4 + 1) (fun v15 => b12_putAs_29 N n x1 x2 v14 v15 μ12))))))
set_option maxHeartbeats 4000000 in
set_option maxRecDepth 100000 in
theorem t12_putAs_29 {p : Program} {l : Launch} {e : Env} {s : State} {m : MethodId} {args : Array Value} {below : List Frame} {meth : Method} {c : Code} {D : va_G} {θ : Th} {A : Nat → Prop} (K : KM p s m args c c12_putAs 5 y12_putAs (some .int) D θ A) (hr : meth.sig.returnType = (some .int)) (hlk : meth.locks = false) (N : Nat) (ρ : Int32 × Mz) : ∀ (n : Nat) (x1 : Int32) (x2 : Int32) (x3 : Int32) (x4 : Int32) (μ : Mz), b12_putAs_29 N n x1 x2 x3 x4 μ = some ρ → JM p l e s m args below meth c D θ A 9 5 (QMi below args s D θ A ρ) μ [(0, .ref θ.1), (1, .int x1), (2, .int x2), (3, .int x3), (4, .int x4)] [] 29 := by
  intro n
  induction n with
  | zero =>
    intro x1 x2 x3 x4 μ h
    exact absurd h (by simp [b12_putAs_29])
  | succ n ih =>
    intro x1 x2 x3 x4 μ h
    rw [b12_putAs_29] at h
    refine j_iload K 4 d12_putAs_29 rfl ?_
    refine j_bipush (v := 8) K d12_putAs_31 (by decide) ?_
    refine j_icmp_ge (tgt := 73) K d12_putAs_33 (by decide) (fun q => ?_) (fun q => ?_)
    · have h := if_t h q
      refine j_aload_n K 0 d12_putAs_73 rfl rfl ?_
      refine mg_said K d12_putAs_74 ?_
      refine j_bipush (v := 53) K d12_putAs_77 (by decide) ?_
      refine j_iload_n K 1 d12_putAs_79 rfl rfl ?_
      refine j_iadd K d12_putAs_80 ?_
      refine j_iload_n K 2 d12_putAs_81 rfl rfl ?_
      obtain ⟨q6, h⟩ := ck_e h
      obtain ⟨μ7, e7, h⟩ := lt_e h
      refine ms_said K (inb_e q6) d12_putAs_82 e7 ?_
      refine j_aload_n K 0 d12_putAs_83 rfl rfl ?_
      obtain ⟨μ8, e8, h⟩ := bo_e h
      refine mcall_v K (c12_laysBack_ok l D θ N  μ7 _ e8) mG_laysBack mh_laysBack (by decide) (by decide) rfl (st := []) (Nat.le_of_ble_eq_true rfl) rfl d12_putAs_84 ?_
      refine j_iload_n K 3 d12_putAs_87 rfl rfl ?_
      exact mret_i K h hr hlk d12_putAs_88
    · have h := if_f h q
      refine j_aload_n K 0 d12_putAs_36 rfl rfl ?_
      refine mg_said K d12_putAs_37 ?_
      refine j_bipush (v := 53) K d12_putAs_40 (by decide) ?_
      refine j_iload_n K 1 d12_putAs_42 rfl rfl ?_
      refine j_iadd K d12_putAs_43 ?_
      refine j_iload K 4 d12_putAs_44 rfl ?_
      obtain ⟨q9, h⟩ := ck_e h
      obtain ⟨μ10, e10, h⟩ := lt_e h
      refine ms_said K (inb_e q9) d12_putAs_46 e10 ?_
      refine j_aload_n K 0 d12_putAs_47 rfl rfl ?_
      obtain ⟨μ11, e11, h⟩ := bo_e h
      refine mcall_v K (c12_begins_ok l D θ N  μ10 _ e11) mG_begins mh_begins (by decide) (by decide) rfl (st := []) (Nat.le_of_ble_eq_true rfl) rfl d12_putAs_48 ?_
      refine j_aload_n K 0 d12_putAs_51 rfl rfl ?_
      refine j_iconst (v := 0) K d12_putAs_52 (by decide) ?_
      refine j_iconst (v := (-1)) K d12_putAs_53 (by decide) ?_
      obtain ⟨r12, μ12, e12, h⟩ := bd_e h
      refine mcall_i K (c12_areAllSo_ok l D θ N 0 (-1) μ11 _ e12) mG_areAllSo mh_areAllSo (by decide) (by decide) rfl (st := []) (Nat.le_of_ble_eq_true rfl) rfl d12_putAs_54 ?_
      refine j_if_eq (tgt := 67) K d12_putAs_57 (by decide) (fun q => ?_) (fun q => ?_)
      · have h := if_t h q
        obtain ⟨v13, e13, h⟩ := lt_e h
        refine j_iinc (k := 4) (v := v13) (lv' := [(4, .int v13), (0, .ref θ.1), (1, .int x1), (2, .int x2), (3, .int x3)]) K d12_putAs_67 rfl (by rw [e13]; rfl) (by decide) rfl ?_
        refine j_goto (tgt := 29) K d12_putAs_70 (by decide) ?_
        refine j_sub [1, 2, 3, 4, 0] rfl ?_
        exact ih x1 x2 x3 v13 μ12 h
      · have h := if_f h q
        refine j_iload_n K 3 d12_putAs_60 rfl rfl ?_
        refine j_iconst (v := 1) K d12_putAs_61 (by decide) ?_
        refine j_iload K 4 d12_putAs_62 rfl ?_
        refine j_ishl K d12_putAs_64 ?_
        refine j_ior K d12_putAs_65 ?_
        obtain ⟨v14, e14, h⟩ := lt_e h
        refine j_eqi e14 ?_
        refine j_istore_n (lv' := [(3, .int v14), (0, .ref θ.1), (1, .int x1), (2, .int x2), (4, .int x4)]) K d12_putAs_66 rfl (by decide) rfl ?_
        obtain ⟨v15, e15, h⟩ := lt_e h
        refine j_iinc (k := 4) (v := v15) (lv' := [(4, .int v15), (3, .int v14), (0, .ref θ.1), (1, .int x1), (2, .int x2)]) K d12_putAs_67 rfl (by rw [e15]; rfl) (by decide) rfl ?_
        refine j_goto (tgt := 29) K d12_putAs_70 (by decide) ?_
        refine j_sub [2, 3, 4, 1, 0] rfl ?_
        exact ih x1 x2 v14 v15 μ12 h
def p12_putAs (N : Nat) (a1 : Int32) (μ : Mz) : Option (Int32 × Mz) := bd (p12_isInBook N a1 μ) (fun r1 μ1 => if r1 = 0 then some ((-1), μ1) else lt (53 + a1) (fun v2 => ck (inb v2 129) (lt (ga 7 μ1 v2.toNatClampNeg) (fun v4 => bo (p12_keeps N  μ1) (fun μ5 => b12_putAs_29 N N a1 v4 0 0 μ5)))))
set_option maxHeartbeats 4000000 in
set_option maxRecDepth 100000 in
theorem c12_putAs_ok (l : Launch) (D : va_G) (θ : Th) (N : Nat) (a1 : Int32) (μ : Mz) (ρ : Int32 × Mz) (h : p12_putAs N a1 μ = some ρ) : CMi l D θ y12_putAs c12_putAs 5 (some .int) 9 [.int a1] μ ρ := by
  intro sz
  refine j_met l [.ref θ.1, .int a1] (by decide +kernel) (Nat.le_of_ble_eq_true rfl) ?_
  intro p e s m args below meth c K hr hlk hnm hs
  generalize va_A (wM θ μ) sz = A at K ⊢
  have K : KM p s m args c c12_putAs 5 y12_putAs (some .int) D θ A := K
  show JM p l e s m args below meth c D θ A 9 5 (QMi below args s D θ A ρ) μ [(0, .ref θ.1), (1, .int a1)] [] 0
  unfold p12_putAs at h
  refine j_aload_n K 0 d12_putAs_0 rfl rfl ?_
  refine j_iload_n K 1 d12_putAs_1 rfl rfl ?_
  obtain ⟨r1, μ1, e1, h⟩ := bd_e h
  refine mcall_i K (c12_isInBook_ok l D θ N a1 μ _ e1) mG_isInBook mh_isInBook (by decide) (by decide) rfl (st := []) (Nat.le_of_ble_eq_true rfl) rfl d12_putAs_2 ?_
  refine j_if_ne (tgt := 10) K d12_putAs_5 (by decide) (fun q => ?_) (fun q => ?_)
  · have h := if_f h q
    refine j_aload_n K 0 d12_putAs_10 rfl rfl ?_
    refine mg_said K d12_putAs_11 ?_
    refine j_bipush (v := 53) K d12_putAs_14 (by decide) ?_
    refine j_iload_n K 1 d12_putAs_16 rfl rfl ?_
    refine j_iadd K d12_putAs_17 ?_
    obtain ⟨v2, e2, h⟩ := lt_e h
    refine j_eqi e2 ?_
    obtain ⟨q3, h⟩ := ck_e h
    refine ml_said K (inb_e q3) d12_putAs_18 ?_
    obtain ⟨v4, e4, h⟩ := lt_e h
    refine j_eqi e4 ?_
    refine j_istore_n (lv' := [(2, .int v4), (0, .ref θ.1), (1, .int a1)]) K d12_putAs_19 rfl (by decide) rfl ?_
    refine j_iconst (v := 0) K d12_putAs_20 (by decide) ?_
    refine j_istore_n (lv' := [(3, .int 0), (2, .int v4), (0, .ref θ.1), (1, .int a1)]) K d12_putAs_21 rfl (by decide) rfl ?_
    refine j_aload_n K 2 d12_putAs_22 rfl rfl ?_
    obtain ⟨μ5, e5, h⟩ := bo_e h
    refine mcall_v K (c12_keeps_ok l D θ N  μ1 _ e5) mG_keeps mh_keeps (by decide) (by decide) rfl (st := []) (Nat.le_of_ble_eq_true rfl) rfl d12_putAs_23 ?_
    refine j_iconst (v := 0) K d12_putAs_26 (by decide) ?_
    refine j_istore (lv' := [(4, .int 0), (3, .int 0), (2, .int v4), (0, .ref θ.1), (1, .int a1)]) K d12_putAs_27 (by decide) rfl ?_
    refine j_sub [3, 4, 2, 1, 0] rfl ?_
    exact t12_putAs_29 K hr hlk N ρ N a1 v4 0 0 μ5 h
  · have h := if_t h q
    refine j_iconst (v := (-1)) K d12_putAs_8 (by decide) ?_
    exact mret_i K h hr hlk d12_putAs_9
def b12_isMendHere_110 (N : Nat) (x1 : Int32) (μ : Mz) : Option (Int32 × Mz) := lt (gi 5 μ) (fun v19 => ck (inb v19 7) (lt (ga 2 μ v19.toNatClampNeg) (fun v21 => ck (inb (x1 + 3) 288) (lt (sa 3 (upd (ga 3 μ) (x1 + 3).toNatClampNeg v21) μ) (fun μ23 => lt (gi 5 μ23) (fun v24 => ck (inb v24 6) (lt ((ga 4 μ23 v24.toNatClampNeg) + 1) (fun v26 => ck (inb v24 6) (lt (sa 4 (upd (ga 4 μ23) v24.toNatClampNeg v26) μ23) (fun μ28 => some (1, μ28)))))))))))
set_option maxHeartbeats 4000000 in
set_option maxRecDepth 100000 in
theorem t12_isMendHere_110 {p : Program} {l : Launch} {e : Env} {s : State} {m : MethodId} {args : Array Value} {below : List Frame} {meth : Method} {c : Code} {D : va_G} {θ : Th} {A : Nat → Prop} (K : KM p s m args c c12_isMendHere 2 y12_isMendHere (some .boolean) D θ A) (hr : meth.sig.returnType = (some .boolean)) (hlk : meth.locks = false) (N : Nat) (ρ : Int32 × Mz) (x1 : Int32) (μ : Mz) (h : b12_isMendHere_110 N x1 μ = some ρ) : JM p l e s m args below meth c D θ A 10 2 (QMi below args s D θ A ρ) μ [(0, .ref θ.1), (1, .int x1)] [] 110 := by
  unfold b12_isMendHere_110 at h
  refine j_aload_n K 0 d12_isMendHere_110 rfl rfl ?_
  refine mg_clause K d12_isMendHere_111 ?_
  refine j_iload_n K 1 d12_isMendHere_114 rfl rfl ?_
  refine j_iconst (v := 3) K d12_isMendHere_115 (by decide) ?_
  refine j_iadd K d12_isMendHere_116 ?_
  refine j_aload_n K 0 d12_isMendHere_117 rfl rfl ?_
  refine mg_length K d12_isMendHere_118 ?_
  refine j_aload_n K 0 d12_isMendHere_121 rfl rfl ?_
  refine mg_text K d12_isMendHere_122 ?_
  obtain ⟨v19, e19, h⟩ := lt_e h
  refine j_eqi e19 ?_
  obtain ⟨q20, h⟩ := ck_e h
  refine ml_length K (inb_e q20) d12_isMendHere_125 ?_
  obtain ⟨v21, e21, h⟩ := lt_e h
  refine j_eqi e21 ?_
  obtain ⟨q22, h⟩ := ck_e h
  obtain ⟨μ23, e23, h⟩ := lt_e h
  refine ms_clause K (inb_e q22) d12_isMendHere_126 e23 ?_
  refine j_aload_n K 0 d12_isMendHere_127 rfl rfl ?_
  refine mg_clauses K d12_isMendHere_128 ?_
  refine j_aload_n K 0 d12_isMendHere_131 rfl rfl ?_
  refine mg_text K d12_isMendHere_132 ?_
  obtain ⟨v24, e24, h⟩ := lt_e h
  refine j_eqi e24 ?_
  refine j_dup2 K d12_isMendHere_135 rfl rfl ?_
  obtain ⟨q25, h⟩ := ck_e h
  refine ml_clauses K (inb_e q25) d12_isMendHere_136 ?_
  refine j_iconst (v := 1) K d12_isMendHere_137 (by decide) ?_
  refine j_iadd K d12_isMendHere_138 ?_
  obtain ⟨v26, e26, h⟩ := lt_e h
  refine j_eqi e26 ?_
  obtain ⟨q27, h⟩ := ck_e h
  obtain ⟨μ28, e28, h⟩ := lt_e h
  refine ms_clauses K (inb_e q27) d12_isMendHere_139 e28 ?_
  refine j_iconst (v := 1) K d12_isMendHere_140 (by decide) ?_
  exact mret_z K h rfl hr hlk d12_isMendHere_141
def p12_isMendHere (N : Nat)  (μ : Mz) : Option (Int32 × Mz) := bo (p12_passWord N  μ) (fun μ1 => lt (gi 5 μ1) (fun v2 => ck (inb v2 6) (lt ((48 * (gi 5 μ1)) + (4 * (ga 4 μ1 v2.toNatClampNeg))) (fun v4 => lt (gi 5 μ1) (fun v5 => ck (inb v5 7) (lt (ga 2 μ1 v5.toNatClampNeg) (fun v7 => ck (inb v4 288) (lt (sa 3 (upd (ga 3 μ1) v4.toNatClampNeg v7) μ1) (fun μ9 => bd (p12_sum N  μ9) (fun r10 μ10 => if r10 = 0 then some (0, μ10) else lt (gi 5 μ10) (fun v11 => ck (inb v11 7) (lt (ga 2 μ10 v11.toNatClampNeg) (fun v13 => ck (inb (v4 + 1) 288) (lt (sa 3 (upd (ga 3 μ10) (v4 + 1).toNatClampNeg v13) μ10) (fun μ15 => ck (inb (v4 + 2) 288) (lt (sa 3 (upd (ga 3 μ15) (v4 + 2).toNatClampNeg (-1)) μ15) (fun μ17 => bd (p12_takesWord N 26982 μ17) (fun r18 μ18 => if r18 = 0 then b12_isMendHere_110 N v4 μ18 else lt (gi 5 μ18) (fun v29 => ck (inb v29 7) (lt (ga 2 μ18 v29.toNatClampNeg) (fun v31 => ck (inb (v4 + 2) 288) (lt (sa 3 (upd (ga 3 μ18) (v4 + 2).toNatClampNeg v31) μ18) (fun μ33 => bd (p12_tested N  μ33) (fun r34 μ34 => if r34 = 0 then some (0, μ34) else b12_isMendHere_110 N v4 μ34))))))))))))))))))))))))
set_option maxHeartbeats 4000000 in
set_option maxRecDepth 100000 in
theorem c12_isMendHere_ok (l : Launch) (D : va_G) (θ : Th) (N : Nat)  (μ : Mz) (ρ : Int32 × Mz) (h : p12_isMendHere N  μ = some ρ) : CMi l D θ y12_isMendHere c12_isMendHere 2 (some .boolean) 10 [] μ ρ := by
  intro sz
  refine j_met l [.ref θ.1] (by decide +kernel) (Nat.le_of_ble_eq_true rfl) ?_
  intro p e s m args below meth c K hr hlk hnm hs
  generalize va_A (wM θ μ) sz = A at K ⊢
  have K : KM p s m args c c12_isMendHere 2 y12_isMendHere (some .boolean) D θ A := K
  show JM p l e s m args below meth c D θ A 10 2 (QMi below args s D θ A ρ) μ [(0, .ref θ.1)] [] 0
  unfold p12_isMendHere at h
  refine j_aload_n K 0 d12_isMendHere_0 rfl rfl ?_
  obtain ⟨μ1, e1, h⟩ := bo_e h
  refine mcall_v K (c12_passWord_ok l D θ N  μ _ e1) mG_passWord mh_passWord (by decide) (by decide) rfl (st := []) (Nat.le_of_ble_eq_true rfl) rfl d12_isMendHere_1 ?_
  refine j_bipush (v := 48) K d12_isMendHere_4 (by decide) ?_
  refine j_aload_n K 0 d12_isMendHere_6 rfl rfl ?_
  refine mg_text K d12_isMendHere_7 ?_
  refine j_imul K d12_isMendHere_10 ?_
  refine j_iconst (v := 4) K d12_isMendHere_11 (by decide) ?_
  refine j_aload_n K 0 d12_isMendHere_12 rfl rfl ?_
  refine mg_clauses K d12_isMendHere_13 ?_
  refine j_aload_n K 0 d12_isMendHere_16 rfl rfl ?_
  refine mg_text K d12_isMendHere_17 ?_
  obtain ⟨v2, e2, h⟩ := lt_e h
  refine j_eqi e2 ?_
  obtain ⟨q3, h⟩ := ck_e h
  refine ml_clauses K (inb_e q3) d12_isMendHere_20 ?_
  refine j_imul K d12_isMendHere_21 ?_
  refine j_iadd K d12_isMendHere_22 ?_
  obtain ⟨v4, e4, h⟩ := lt_e h
  refine j_eqi e4 ?_
  refine j_istore_n (lv' := [(1, .int v4), (0, .ref θ.1)]) K d12_isMendHere_23 rfl (by decide) rfl ?_
  refine j_aload_n K 1 d12_isMendHere_24 rfl rfl ?_
  refine mg_clause K d12_isMendHere_25 ?_
  refine j_iload_n K 0 d12_isMendHere_28 rfl rfl ?_
  refine j_aload_n K 1 d12_isMendHere_29 rfl rfl ?_
  refine mg_length K d12_isMendHere_30 ?_
  refine j_aload_n K 1 d12_isMendHere_33 rfl rfl ?_
  refine mg_text K d12_isMendHere_34 ?_
  obtain ⟨v5, e5, h⟩ := lt_e h
  refine j_eqi e5 ?_
  obtain ⟨q6, h⟩ := ck_e h
  refine ml_length K (inb_e q6) d12_isMendHere_37 ?_
  obtain ⟨v7, e7, h⟩ := lt_e h
  refine j_eqi e7 ?_
  obtain ⟨q8, h⟩ := ck_e h
  obtain ⟨μ9, e9, h⟩ := lt_e h
  refine ms_clause K (inb_e q8) d12_isMendHere_38 e9 ?_
  refine j_aload_n K 1 d12_isMendHere_39 rfl rfl ?_
  obtain ⟨r10, μ10, e10, h⟩ := bd_e h
  refine mcall_i K (c12_sum_ok l D θ N  μ9 _ e10) mG_sum mh_sum (by decide) (by decide) rfl (st := []) (Nat.le_of_ble_eq_true rfl) rfl d12_isMendHere_40 ?_
  refine j_if_ne (tgt := 48) K d12_isMendHere_43 (by decide) (fun q => ?_) (fun q => ?_)
  · have h := if_f h q
    refine j_aload_n K 1 d12_isMendHere_48 rfl rfl ?_
    refine mg_clause K d12_isMendHere_49 ?_
    refine j_iload_n K 0 d12_isMendHere_52 rfl rfl ?_
    refine j_iconst (v := 1) K d12_isMendHere_53 (by decide) ?_
    refine j_iadd K d12_isMendHere_54 ?_
    refine j_aload_n K 1 d12_isMendHere_55 rfl rfl ?_
    refine mg_length K d12_isMendHere_56 ?_
    refine j_aload_n K 1 d12_isMendHere_59 rfl rfl ?_
    refine mg_text K d12_isMendHere_60 ?_
    obtain ⟨v11, e11, h⟩ := lt_e h
    refine j_eqi e11 ?_
    obtain ⟨q12, h⟩ := ck_e h
    refine ml_length K (inb_e q12) d12_isMendHere_63 ?_
    obtain ⟨v13, e13, h⟩ := lt_e h
    refine j_eqi e13 ?_
    obtain ⟨q14, h⟩ := ck_e h
    obtain ⟨μ15, e15, h⟩ := lt_e h
    refine ms_clause K (inb_e q14) d12_isMendHere_64 e15 ?_
    refine j_aload_n K 1 d12_isMendHere_65 rfl rfl ?_
    refine mg_clause K d12_isMendHere_66 ?_
    refine j_iload_n K 0 d12_isMendHere_69 rfl rfl ?_
    refine j_iconst (v := 2) K d12_isMendHere_70 (by decide) ?_
    refine j_iadd K d12_isMendHere_71 ?_
    refine j_iconst (v := (-1)) K d12_isMendHere_72 (by decide) ?_
    obtain ⟨q16, h⟩ := ck_e h
    obtain ⟨μ17, e17, h⟩ := lt_e h
    refine ms_clause K (inb_e q16) d12_isMendHere_73 e17 ?_
    refine j_aload_n K 1 d12_isMendHere_74 rfl rfl ?_
    refine j_ldc2 (v := 26982) K (List.mem_cons_of_mem _ mk12_219) d12_isMendHere_75 ?_
    obtain ⟨r18, μ18, e18, h⟩ := bd_e h
    refine mcall_i K (c12_takesWord_ok l D θ N 26982 μ17 _ e18) mG_takesWord mh_takesWord (by decide) (by decide) rfl (st := []) (Nat.le_of_ble_eq_true rfl) rfl d12_isMendHere_78 ?_
    refine j_if_eq (tgt := 110) K d12_isMendHere_81 (by decide) (fun q => ?_) (fun q => ?_)
    · have h := if_t h q
      refine j_sub [1, 0] rfl ?_
      exact t12_isMendHere_110 K hr hlk N ρ v4 μ18 h
    · have h := if_f h q
      refine j_aload_n K 1 d12_isMendHere_84 rfl rfl ?_
      refine mg_clause K d12_isMendHere_85 ?_
      refine j_iload_n K 0 d12_isMendHere_88 rfl rfl ?_
      refine j_iconst (v := 2) K d12_isMendHere_89 (by decide) ?_
      refine j_iadd K d12_isMendHere_90 ?_
      refine j_aload_n K 1 d12_isMendHere_91 rfl rfl ?_
      refine mg_length K d12_isMendHere_92 ?_
      refine j_aload_n K 1 d12_isMendHere_95 rfl rfl ?_
      refine mg_text K d12_isMendHere_96 ?_
      obtain ⟨v29, e29, h⟩ := lt_e h
      refine j_eqi e29 ?_
      obtain ⟨q30, h⟩ := ck_e h
      refine ml_length K (inb_e q30) d12_isMendHere_99 ?_
      obtain ⟨v31, e31, h⟩ := lt_e h
      refine j_eqi e31 ?_
      obtain ⟨q32, h⟩ := ck_e h
      obtain ⟨μ33, e33, h⟩ := lt_e h
      refine ms_clause K (inb_e q32) d12_isMendHere_100 e33 ?_
      refine j_aload_n K 1 d12_isMendHere_101 rfl rfl ?_
      obtain ⟨r34, μ34, e34, h⟩ := bd_e h
      refine mcall_i K (c12_tested_ok l D θ N  μ33 _ e34) mG_tested mh_tested (by decide) (by decide) rfl (st := []) (Nat.le_of_ble_eq_true rfl) rfl d12_isMendHere_102 ?_
      refine j_if_ne (tgt := 110) K d12_isMendHere_105 (by decide) (fun q => ?_) (fun q => ?_)
      · have h := if_f h q
        refine j_sub [1, 0] rfl ?_
        exact t12_isMendHere_110 K hr hlk N ρ v4 μ34 h
      · have h := if_t h q
        refine j_iconst (v := 0) K d12_isMendHere_108 (by decide) ?_
        exact mret_z K h rfl hr hlk d12_isMendHere_109
  · have h := if_t h q
    refine j_iconst (v := 0) K d12_isMendHere_46 (by decide) ?_
    exact mret_z K h rfl hr hlk d12_isMendHere_47
def b12_one_67 (N : Nat) (k53 : Int32 → Int32 → Int32 → Int32 → Int32 → Int32 → Mz → Option (Int32 × Mz)) : Nat → Int32 → Int32 → Int32 → Int32 → Int32 → Int32 → Int32 → Mz → Option (Int32 × Mz)
  | 0, _, _, _, _, _, _, _, _ => none
  | n + 1, x1, x2, x3, x4, x5, x6, x7, μ => if 8 ≤ x7 then lt (x6 + 1) (fun v6 => k53 x1 x2 x3 x4 x5 v6 μ) else ck (inb (13 + x6) 129) (lt (sa 7 (upd (ga 7 μ) (13 + x6).toNatClampNeg x7) μ) (fun μ8 => bd (p12_wrongIn N x1 μ8) (fun r9 μ9 => if r9 < x5 then lt (x7 + 1) (fun v10 => b12_one_67 N k53 n x1 x2 x6 x7 r9 x6 v10 μ9) else lt (x7 + 1) (fun v11 => b12_one_67 N k53 n x1 x2 x3 x4 x5 x6 v11 μ9))))
set_option maxHeartbeats 4000000 in
set_option maxRecDepth 100000 in
theorem t12_one_67 {p : Program} {l : Launch} {e : Env} {s : State} {m : MethodId} {args : Array Value} {below : List Frame} {meth : Method} {c : Code} {D : va_G} {θ : Th} {A : Nat → Prop} (K : KM p s m args c c12_one 9 y12_one (some .int) D θ A) (hr : meth.sig.returnType = (some .int)) (hlk : meth.locks = false) (N : Nat) (ρ : Int32 × Mz) (k53 : Int32 → Int32 → Int32 → Int32 → Int32 → Int32 → Mz → Option (Int32 × Mz)) (hk53 : ∀ (x1 : Int32) (x2 : Int32) (x3 : Int32) (x4 : Int32) (x5 : Int32) (x6 : Int32) (μ : Mz), k53 x1 x2 x3 x4 x5 x6 μ = some ρ → JM p l e s m args below meth c D θ A 10 9 (QMi below args s D θ A ρ) μ [(0, .ref θ.1), (1, .int x1), (2, .int x2), (3, .int x3), (4, .int x4), (5, .int x5), (6, .int x6)] [] 53) : ∀ (n : Nat) (x1 : Int32) (x2 : Int32) (x3 : Int32) (x4 : Int32) (x5 : Int32) (x6 : Int32) (x7 : Int32) (μ : Mz), b12_one_67 N k53 n x1 x2 x3 x4 x5 x6 x7 μ = some ρ → JM p l e s m args below meth c D θ A 10 9 (QMi below args s D θ A ρ) μ [(0, .ref θ.1), (1, .int x1), (2, .int x2), (3, .int x3), (4, .int x4), (5, .int x5), (6, .int x6), (7, .int x7)] [] 67 := by
  intro n
  induction n with
  | zero =>
    intro x1 x2 x3 x4 x5 x6 x7 μ h
    exact absurd h (by simp [b12_one_67])
  | succ n ih =>
    intro x1 x2 x3 x4 x5 x6 x7 μ h
    rw [b12_one_67] at h
    refine j_iload K 7 d12_one_67 rfl ?_
    refine j_bipush (v := 8) K d12_one_69 (by decide) ?_
    refine j_icmp_ge (tgt := 120) K d12_one_71 (by decide) (fun q => ?_) (fun q => ?_)
    · have h := if_t h q
      obtain ⟨v6, e6, h⟩ := lt_e h
      refine j_iinc (k := 6) (v := v6) (lv' := [(6, .int v6), (0, .ref θ.1), (1, .int x1), (2, .int x2), (3, .int x3), (4, .int x4), (5, .int x5), (7, .int x7)]) K d12_one_120 rfl (by rw [e6]; rfl) (by decide) rfl ?_
      refine j_goto (tgt := 53) K d12_one_123 (by decide) ?_
      refine j_sub [1, 2, 3, 4, 5, 6, 0] rfl ?_
      exact hk53 x1 x2 x3 x4 x5 v6 μ h
    · have h := if_f h q
      refine j_aload_n K 0 d12_one_74 rfl rfl ?_
      refine mg_said K d12_one_75 ?_
      refine j_bipush (v := 13) K d12_one_78 (by decide) ?_
      refine j_iload K 6 d12_one_80 rfl ?_
      refine j_iadd K d12_one_82 ?_
      refine j_iload K 7 d12_one_83 rfl ?_
      obtain ⟨q7, h⟩ := ck_e h
      obtain ⟨μ8, e8, h⟩ := lt_e h
      refine ms_said K (inb_e q7) d12_one_85 e8 ?_
      refine j_aload_n K 0 d12_one_86 rfl rfl ?_
      refine j_iload_n K 1 d12_one_87 rfl rfl ?_
      obtain ⟨r9, μ9, e9, h⟩ := bd_e h
      refine mcall_i K (c12_wrongIn_ok l D θ N x1 μ8 _ e9) mG_wrongIn mh_wrongIn (by decide) (by decide) rfl (st := []) (Nat.le_of_ble_eq_true rfl) rfl d12_one_88 ?_
      refine j_istore (lv' := [(8, .int r9), (0, .ref θ.1), (1, .int x1), (2, .int x2), (3, .int x3), (4, .int x4), (5, .int x5), (6, .int x6), (7, .int x7)]) K d12_one_91 (by decide) rfl ?_
      refine j_iload K 0 d12_one_93 rfl ?_
      refine j_iload K 6 d12_one_95 rfl ?_
      refine j_icmp_lt (tgt := 103) K d12_one_97 (by decide) (fun q => ?_) (fun q => ?_)
      · have h := if_t h q
        refine j_iload K 7 d12_one_103 rfl ?_
        refine j_istore_n (lv' := [(3, .int x6), (8, .int r9), (0, .ref θ.1), (1, .int x1), (2, .int x2), (4, .int x4), (5, .int x5), (6, .int x6), (7, .int x7)]) K d12_one_105 rfl (by decide) rfl ?_
        refine j_iload K 8 d12_one_106 rfl ?_
        refine j_istore (lv' := [(4, .int x7), (3, .int x6), (8, .int r9), (0, .ref θ.1), (1, .int x1), (2, .int x2), (5, .int x5), (6, .int x6), (7, .int x7)]) K d12_one_108 (by decide) rfl ?_
        refine j_iload K 2 d12_one_110 rfl ?_
        refine j_istore (lv' := [(5, .int r9), (4, .int x7), (3, .int x6), (8, .int r9), (0, .ref θ.1), (1, .int x1), (2, .int x2), (6, .int x6), (7, .int x7)]) K d12_one_112 (by decide) rfl ?_
        obtain ⟨v10, e10, h⟩ := lt_e h
        refine j_iinc (k := 8) (v := v10) (lv' := [(7, .int v10), (5, .int r9), (4, .int x7), (3, .int x6), (8, .int r9), (0, .ref θ.1), (1, .int x1), (2, .int x2), (6, .int x6)]) K d12_one_114 rfl (by rw [e10]; rfl) (by decide) rfl ?_
        refine j_goto (tgt := 67) K d12_one_117 (by decide) ?_
        refine j_sub [5, 6, 7, 3, 2, 1, 8, 0] rfl ?_
        exact ih x1 x2 x6 x7 r9 x6 v10 μ9 h
      · have h := if_f h q
        refine j_goto (tgt := 114) K d12_one_100 (by decide) ?_
        obtain ⟨v11, e11, h⟩ := lt_e h
        refine j_iinc (k := 8) (v := v11) (lv' := [(7, .int v11), (8, .int r9), (0, .ref θ.1), (1, .int x1), (2, .int x2), (3, .int x3), (4, .int x4), (5, .int x5), (6, .int x6)]) K d12_one_114 rfl (by rw [e11]; rfl) (by decide) rfl ?_
        refine j_goto (tgt := 67) K d12_one_117 (by decide) ?_
        refine j_sub [2, 3, 4, 5, 6, 7, 8, 0] rfl ?_
        exact ih x1 x2 x3 x4 x5 x6 v11 μ9 h
def b12_one_53 (N : Nat) : Nat → Int32 → Int32 → Int32 → Int32 → Int32 → Int32 → Mz → Option (Int32 × Mz)
  | 0, _, _, _, _, _, _, _ => none
  | n + 1, x1, x2, x3, x4, x5, x6, μ => if (ga 7 μ (3 : Int32).toNatClampNeg) ≤ x6 then if x2 = 0 then some (x5, μ) else if x2 = 1 then some (x3, μ) else some (x4, μ) else b12_one_67 N (b12_one_53 N n) N x1 x2 x3 x4 x5 x6 0 μ
set_option maxHeartbeats 4000000 in
set_option maxRecDepth 100000 in
theorem t12_one_53 {p : Program} {l : Launch} {e : Env} {s : State} {m : MethodId} {args : Array Value} {below : List Frame} {meth : Method} {c : Code} {D : va_G} {θ : Th} {A : Nat → Prop} (K : KM p s m args c c12_one 9 y12_one (some .int) D θ A) (hr : meth.sig.returnType = (some .int)) (hlk : meth.locks = false) (N : Nat) (ρ : Int32 × Mz) : ∀ (n : Nat) (x1 : Int32) (x2 : Int32) (x3 : Int32) (x4 : Int32) (x5 : Int32) (x6 : Int32) (μ : Mz), b12_one_53 N n x1 x2 x3 x4 x5 x6 μ = some ρ → JM p l e s m args below meth c D θ A 10 9 (QMi below args s D θ A ρ) μ [(0, .ref θ.1), (1, .int x1), (2, .int x2), (3, .int x3), (4, .int x4), (5, .int x5), (6, .int x6)] [] 53 := by
  intro n
  induction n with
  | zero =>
    intro x1 x2 x3 x4 x5 x6 μ h
    exact absurd h (by simp [b12_one_53])
  | succ n ih =>
    intro x1 x2 x3 x4 x5 x6 μ h
    rw [b12_one_53] at h
    refine j_iload K 6 d12_one_53 rfl ?_
    refine j_aload_n K 0 d12_one_55 rfl rfl ?_
    refine mg_said K d12_one_56 ?_
    refine j_iconst (v := 3) K d12_one_59 (by decide) ?_
    refine ml_said K (inb_e (by decide)) d12_one_60 ?_
    refine j_icmp_ge (tgt := 126) K d12_one_61 (by decide) (fun q => ?_) (fun q => ?_)
    · have h := if_t h q
      refine j_iload_n K 2 d12_one_126 rfl rfl ?_
      refine j_if_ne (tgt := 135) K d12_one_127 (by decide) (fun q => ?_) (fun q => ?_)
      · have h := if_f h q
        refine j_iload_n K 2 d12_one_135 rfl rfl ?_
        refine j_iconst (v := 1) K d12_one_136 (by decide) ?_
        refine j_icmp_ne (tgt := 144) K d12_one_137 (by decide) (fun q => ?_) (fun q => ?_)
        · have h := if_f h q
          refine j_iload K 4 d12_one_144 rfl ?_
          exact mret_i K h hr hlk d12_one_146
        · have h := if_t h q
          refine j_iload_n K 3 d12_one_140 rfl rfl ?_
          refine j_goto (tgt := 146) K d12_one_141 (by decide) ?_
          exact mret_i K h hr hlk d12_one_146
      · have h := if_t h q
        refine j_iload K 5 d12_one_130 rfl ?_
        refine j_goto (tgt := 146) K d12_one_132 (by decide) ?_
        exact mret_i K h hr hlk d12_one_146
    · have h := if_f h q
      refine j_iconst (v := 0) K d12_one_64 (by decide) ?_
      refine j_istore (lv' := [(7, .int 0), (0, .ref θ.1), (1, .int x1), (2, .int x2), (3, .int x3), (4, .int x4), (5, .int x5), (6, .int x6)]) K d12_one_65 (by decide) rfl ?_
      refine j_sub [1, 2, 3, 4, 5, 6, 7, 0] rfl ?_
      exact t12_one_67 K hr hlk N ρ (b12_one_53 N n) ih N x1 x2 x3 x4 x5 x6 0 μ h
def p12_one (N : Nat) (a1 : Int32) (a2 : Int32) (μ : Mz) : Option (Int32 × Mz) := bd (p12_isBook N  μ) (fun r1 μ1 => if r1 = 0 then some ((-2), μ1) else bo (p12_in N (a1.toInt64) 1 40) (fun r2 => if r2 = 0 then some ((-2), μ1) else bo (p12_in N (a2.toInt64) 0 2) (fun r3 => if r3 = 0 then some ((-2), μ1) else bo (p12_keeps N  μ1) (fun μ4 => bd (p12_wrongIn N a1 μ4) (fun r5 μ5 => b12_one_53 N N a1 a2 (-1) (-1) r5 0 μ5)))))
set_option maxHeartbeats 4000000 in
set_option maxRecDepth 100000 in
theorem c12_one_ok (l : Launch) (D : va_G) (θ : Th) (N : Nat) (a1 : Int32) (a2 : Int32) (μ : Mz) (ρ : Int32 × Mz) (h : p12_one N a1 a2 μ = some ρ) : CMi l D θ y12_one c12_one 9 (some .int) 10 [.int a1, .int a2] μ ρ := by
  intro sz
  refine j_met l [.ref θ.1, .int a1, .int a2] (by decide +kernel) (Nat.le_of_ble_eq_true rfl) ?_
  intro p e s m args below meth c K hr hlk hnm hs
  generalize va_A (wM θ μ) sz = A at K ⊢
  have K : KM p s m args c c12_one 9 y12_one (some .int) D θ A := K
  show JM p l e s m args below meth c D θ A 10 9 (QMi below args s D θ A ρ) μ [(0, .ref θ.1), (1, .int a1), (2, .int a2)] [] 0
  unfold p12_one at h
  refine j_aload_n K 0 d12_one_0 rfl rfl ?_
  obtain ⟨r1, μ1, e1, h⟩ := bd_e h
  refine mcall_i K (c12_isBook_ok l D θ N  μ _ e1) mG_isBook mh_isBook (by decide) (by decide) rfl (st := []) (Nat.le_of_ble_eq_true rfl) rfl d12_one_1 ?_
  refine j_if_eq (tgt := 31) K d12_one_4 (by decide) (fun q => ?_) (fun q => ?_)
  · have h := if_t h q
    refine j_bipush (v := (-2)) K d12_one_31 (by decide) ?_
    exact mret_i K h hr hlk d12_one_33
  · have h := if_f h q
    refine j_iload_n K 1 d12_one_7 rfl rfl ?_
    refine j_i2l K d12_one_8 ?_
    refine j_lconst (v := 1) K d12_one_9 (by decide) ?_
    refine j_ldc2 (v := 40) K (List.mem_cons_of_mem _ mk12_409) d12_one_10 ?_
    obtain ⟨r2, e2, h⟩ := bo_e h
    refine mcalls_i K (c12_in_ok l D θ N (a1.toInt64) 1 40 _ e2) mG_in mh_in (by decide) (by decide) rfl (st := []) (Nat.le_of_ble_eq_true rfl) rfl d12_one_13 ?_
    refine j_if_eq (tgt := 31) K d12_one_16 (by decide) (fun q => ?_) (fun q => ?_)
    · have h := if_t h q
      refine j_bipush (v := (-2)) K d12_one_31 (by decide) ?_
      exact mret_i K h hr hlk d12_one_33
    · have h := if_f h q
      refine j_iload_n K 2 d12_one_19 rfl rfl ?_
      refine j_i2l K d12_one_20 ?_
      refine j_lconst (v := 0) K d12_one_21 (by decide) ?_
      refine j_ldc2 (v := 2) K (List.mem_cons_of_mem _ mk12_398) d12_one_22 ?_
      obtain ⟨r3, e3, h⟩ := bo_e h
      refine mcalls_i K (c12_in_ok l D θ N (a2.toInt64) 0 2 _ e3) mG_in mh_in (by decide) (by decide) rfl (st := []) (Nat.le_of_ble_eq_true rfl) rfl d12_one_25 ?_
      refine j_if_ne (tgt := 34) K d12_one_28 (by decide) (fun q => ?_) (fun q => ?_)
      · have h := if_f h q
        refine j_aload_n K 0 d12_one_34 rfl rfl ?_
        obtain ⟨μ4, e4, h⟩ := bo_e h
        refine mcall_v K (c12_keeps_ok l D θ N  μ1 _ e4) mG_keeps mh_keeps (by decide) (by decide) rfl (st := []) (Nat.le_of_ble_eq_true rfl) rfl d12_one_35 ?_
        refine j_iconst (v := (-1)) K d12_one_38 (by decide) ?_
        refine j_istore_n (lv' := [(3, .int (-1)), (0, .ref θ.1), (1, .int a1), (2, .int a2)]) K d12_one_39 rfl (by decide) rfl ?_
        refine j_iconst (v := (-1)) K d12_one_40 (by decide) ?_
        refine j_istore (lv' := [(4, .int (-1)), (3, .int (-1)), (0, .ref θ.1), (1, .int a1), (2, .int a2)]) K d12_one_41 (by decide) rfl ?_
        refine j_aload_n K 2 d12_one_43 rfl rfl ?_
        refine j_iload_n K 3 d12_one_44 rfl rfl ?_
        obtain ⟨r5, μ5, e5, h⟩ := bd_e h
        refine mcall_i K (c12_wrongIn_ok l D θ N a1 μ4 _ e5) mG_wrongIn mh_wrongIn (by decide) (by decide) rfl (st := []) (Nat.le_of_ble_eq_true rfl) rfl d12_one_45 ?_
        refine j_istore (lv' := [(5, .int r5), (4, .int (-1)), (3, .int (-1)), (0, .ref θ.1), (1, .int a1), (2, .int a2)]) K d12_one_48 (by decide) rfl ?_
        refine j_iconst (v := 0) K d12_one_50 (by decide) ?_
        refine j_istore (lv' := [(6, .int 0), (5, .int r5), (4, .int (-1)), (3, .int (-1)), (0, .ref θ.1), (1, .int a1), (2, .int a2)]) K d12_one_51 (by decide) rfl ?_
        refine j_sub [4, 5, 6, 3, 2, 1, 0] rfl ?_
        exact t12_one_53 K hr hlk N ρ N a1 a2 (-1) (-1) r5 0 μ5 h
      · have h := if_t h q
        refine j_bipush (v := (-2)) K d12_one_31 (by decide) ?_
        exact mret_i K h hr hlk d12_one_33
