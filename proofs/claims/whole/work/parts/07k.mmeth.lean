def b12_leftOff_48 (N : Nat) : Nat → Int32 → Int32 → Int32 → Int32 → Int32 → Mz → Option (Int32 × Mz)
  | 0, _, _, _, _, _, _ => none
  | n + 1, x1, x2, x3, x4, x5, μ => if (ga 7 μ (2 : Int32).toNatClampNeg) ≤ x5 then lt (si 13 (-1) μ) (fun μ6 => if x2 = 0 then some (x3, μ6) else some (x4, μ6)) else lt (si 13 x5 μ) (fun μ7 => bd (p12_wrongIn N x1 μ7) (fun r8 μ8 => if r8 < x4 then lt (x5 + 1) (fun v9 => b12_leftOff_48 N n x1 x2 x5 r8 v9 μ8) else lt (x5 + 1) (fun v10 => b12_leftOff_48 N n x1 x2 x3 x4 v10 μ8)))
set_option maxHeartbeats 4000000 in
set_option maxRecDepth 100000 in
theorem t12_leftOff_48 {p : Program} {l : Launch} {e : Env} {s : State} {m : MethodId} {args : Array Value} {below : List Frame} {meth : Method} {c : Code} {D : va_G} {θ : Th} {A : Nat → Prop} (K : KM p s m args c c12_leftOff 7 y12_leftOff (some .int) D θ A) (hr : meth.sig.returnType = (some .int)) (hlk : meth.locks = false) (N : Nat) (ρ : Int32 × Mz) : ∀ (n : Nat) (x1 : Int32) (x2 : Int32) (x3 : Int32) (x4 : Int32) (x5 : Int32) (μ : Mz), b12_leftOff_48 N n x1 x2 x3 x4 x5 μ = some ρ → JM p l e s m args below meth c D θ A 10 7 (QMi below args s D θ A ρ) μ [(0, .ref θ.1), (1, .int x1), (2, .int x2), (3, .int x3), (4, .int x4), (5, .int x5)] [] 48 := by
  intro n
  induction n with
  | zero =>
    intro x1 x2 x3 x4 x5 μ h
    exact absurd h (by simp [b12_leftOff_48])
  | succ n ih =>
    intro x1 x2 x3 x4 x5 μ h
    rw [b12_leftOff_48] at h
    refine j_iload K 5 d12_leftOff_48 rfl ?_
    refine j_aload_n K 0 d12_leftOff_50 rfl rfl ?_
    refine mg_said K d12_leftOff_51 ?_
    refine j_iconst (v := 2) K d12_leftOff_54 (by decide) ?_
    refine ml_said K (inb_e (by decide)) d12_leftOff_55 ?_
    refine j_icmp_ge (tgt := 95) K d12_leftOff_56 (by decide) (fun q => ?_) (fun q => ?_)
    · have h := if_t h q
      refine j_aload_n K 0 d12_leftOff_95 rfl rfl ?_
      refine j_iconst (v := (-1)) K d12_leftOff_96 (by decide) ?_
      obtain ⟨μ6, e6, h⟩ := lt_e h
      refine mp_leftNow K d12_leftOff_97 e6 ?_
      refine j_iload_n K 2 d12_leftOff_100 rfl rfl ?_
      refine j_if_ne (tgt := 108) K d12_leftOff_101 (by decide) (fun q => ?_) (fun q => ?_)
      · have h := if_f h q
        refine j_iload K 4 d12_leftOff_108 rfl ?_
        exact mret_i K h hr hlk d12_leftOff_110
      · have h := if_t h q
        refine j_iload_n K 3 d12_leftOff_104 rfl rfl ?_
        refine j_goto (tgt := 110) K d12_leftOff_105 (by decide) ?_
        exact mret_i K h hr hlk d12_leftOff_110
    · have h := if_f h q
      refine j_aload_n K 0 d12_leftOff_59 rfl rfl ?_
      refine j_iload K 5 d12_leftOff_60 rfl ?_
      obtain ⟨μ7, e7, h⟩ := lt_e h
      refine mp_leftNow K d12_leftOff_62 e7 ?_
      refine j_aload_n K 0 d12_leftOff_65 rfl rfl ?_
      refine j_iload_n K 1 d12_leftOff_66 rfl rfl ?_
      obtain ⟨r8, μ8, e8, h⟩ := bd_e h
      refine mcall_i K (c12_wrongIn_ok l D θ N x1 μ7 _ e8) mG_wrongIn mh_wrongIn (by decide) (by decide) rfl (st := []) (Nat.le_of_ble_eq_true rfl) rfl d12_leftOff_67 ?_
      refine j_istore (lv' := [(6, .int r8), (0, .ref θ.1), (1, .int x1), (2, .int x2), (3, .int x3), (4, .int x4), (5, .int x5)]) K d12_leftOff_70 (by decide) rfl ?_
      refine j_iload K 0 d12_leftOff_72 rfl ?_
      refine j_iload K 5 d12_leftOff_74 rfl ?_
      refine j_icmp_lt (tgt := 82) K d12_leftOff_76 (by decide) (fun q => ?_) (fun q => ?_)
      · have h := if_t h q
        refine j_iload K 6 d12_leftOff_82 rfl ?_
        refine j_istore_n (lv' := [(3, .int x5), (6, .int r8), (0, .ref θ.1), (1, .int x1), (2, .int x2), (4, .int x4), (5, .int x5)]) K d12_leftOff_84 rfl (by decide) rfl ?_
        refine j_iload K 1 d12_leftOff_85 rfl ?_
        refine j_istore (lv' := [(4, .int r8), (3, .int x5), (6, .int r8), (0, .ref θ.1), (1, .int x1), (2, .int x2), (5, .int x5)]) K d12_leftOff_87 (by decide) rfl ?_
        obtain ⟨v9, e9, h⟩ := lt_e h
        refine j_iinc (k := 6) (v := v9) (lv' := [(5, .int v9), (4, .int r8), (3, .int x5), (6, .int r8), (0, .ref θ.1), (1, .int x1), (2, .int x2)]) K d12_leftOff_89 rfl (by rw [e9]; rfl) (by decide) rfl ?_
        refine j_goto (tgt := 48) K d12_leftOff_92 (by decide) ?_
        refine j_sub [4, 5, 6, 2, 1, 0] rfl ?_
        exact ih x1 x2 x5 r8 v9 μ8 h
      · have h := if_f h q
        refine j_goto (tgt := 89) K d12_leftOff_79 (by decide) ?_
        obtain ⟨v10, e10, h⟩ := lt_e h
        refine j_iinc (k := 6) (v := v10) (lv' := [(5, .int v10), (6, .int r8), (0, .ref θ.1), (1, .int x1), (2, .int x2), (3, .int x3), (4, .int x4)]) K d12_leftOff_89 rfl (by rw [e10]; rfl) (by decide) rfl ?_
        refine j_goto (tgt := 48) K d12_leftOff_92 (by decide) ?_
        refine j_sub [2, 3, 4, 5, 6, 0] rfl ?_
        exact ih x1 x2 x3 x4 v10 μ8 h
def p12_leftOff (N : Nat) (a1 : Int32) (a2 : Int32) (μ : Mz) : Option (Int32 × Mz) := bd (p12_isBook N  μ) (fun r1 μ1 => if r1 = 0 then some ((-2), μ1) else bo (p12_in N (a1.toInt64) 1 40) (fun r2 => if r2 = 0 then some ((-2), μ1) else bo (p12_in N (a2.toInt64) 0 1) (fun r3 => if r3 = 0 then some ((-2), μ1) else bo (p12_keeps N  μ1) (fun μ4 => bd (p12_wrongIn N a1 μ4) (fun r5 μ5 => b12_leftOff_48 N N a1 a2 (-1) r5 0 μ5)))))
set_option maxHeartbeats 4000000 in
set_option maxRecDepth 100000 in
theorem c12_leftOff_ok (l : Launch) (D : va_G) (θ : Th) (N : Nat) (a1 : Int32) (a2 : Int32) (μ : Mz) (ρ : Int32 × Mz) (h : p12_leftOff N a1 a2 μ = some ρ) : CMi l D θ y12_leftOff c12_leftOff 7 (some .int) 10 [.int a1, .int a2] μ ρ := by
  intro sz
  refine j_met l [.ref θ.1, .int a1, .int a2] (by decide +kernel) (Nat.le_of_ble_eq_true rfl) ?_
  intro p e s m args below meth c K hr hlk hnm hs
  generalize va_A (wM θ μ) sz = A at K ⊢
  have K : KM p s m args c c12_leftOff 7 y12_leftOff (some .int) D θ A := K
  show JM p l e s m args below meth c D θ A 10 7 (QMi below args s D θ A ρ) μ [(0, .ref θ.1), (1, .int a1), (2, .int a2)] [] 0
  unfold p12_leftOff at h
  refine j_aload_n K 0 d12_leftOff_0 rfl rfl ?_
  obtain ⟨r1, μ1, e1, h⟩ := bd_e h
  refine mcall_i K (c12_isBook_ok l D θ N  μ _ e1) mG_isBook mh_isBook (by decide) (by decide) rfl (st := []) (Nat.le_of_ble_eq_true rfl) rfl d12_leftOff_1 ?_
  refine j_if_eq (tgt := 29) K d12_leftOff_4 (by decide) (fun q => ?_) (fun q => ?_)
  · have h := if_t h q
    refine j_bipush (v := (-2)) K d12_leftOff_29 (by decide) ?_
    exact mret_i K h hr hlk d12_leftOff_31
  · have h := if_f h q
    refine j_iload_n K 1 d12_leftOff_7 rfl rfl ?_
    refine j_i2l K d12_leftOff_8 ?_
    refine j_lconst (v := 1) K d12_leftOff_9 (by decide) ?_
    refine j_ldc2 (v := 40) K (List.mem_cons_of_mem _ mk12_409) d12_leftOff_10 ?_
    obtain ⟨r2, e2, h⟩ := bo_e h
    refine mcalls_i K (c12_in_ok l D θ N (a1.toInt64) 1 40 _ e2) mG_in mh_in (by decide) (by decide) rfl (st := []) (Nat.le_of_ble_eq_true rfl) rfl d12_leftOff_13 ?_
    refine j_if_eq (tgt := 29) K d12_leftOff_16 (by decide) (fun q => ?_) (fun q => ?_)
    · have h := if_t h q
      refine j_bipush (v := (-2)) K d12_leftOff_29 (by decide) ?_
      exact mret_i K h hr hlk d12_leftOff_31
    · have h := if_f h q
      refine j_iload_n K 2 d12_leftOff_19 rfl rfl ?_
      refine j_i2l K d12_leftOff_20 ?_
      refine j_lconst (v := 0) K d12_leftOff_21 (by decide) ?_
      refine j_lconst (v := 1) K d12_leftOff_22 (by decide) ?_
      obtain ⟨r3, e3, h⟩ := bo_e h
      refine mcalls_i K (c12_in_ok l D θ N (a2.toInt64) 0 1 _ e3) mG_in mh_in (by decide) (by decide) rfl (st := []) (Nat.le_of_ble_eq_true rfl) rfl d12_leftOff_23 ?_
      refine j_if_ne (tgt := 32) K d12_leftOff_26 (by decide) (fun q => ?_) (fun q => ?_)
      · have h := if_f h q
        refine j_aload_n K 0 d12_leftOff_32 rfl rfl ?_
        obtain ⟨μ4, e4, h⟩ := bo_e h
        refine mcall_v K (c12_keeps_ok l D θ N  μ1 _ e4) mG_keeps mh_keeps (by decide) (by decide) rfl (st := []) (Nat.le_of_ble_eq_true rfl) rfl d12_leftOff_33 ?_
        refine j_iconst (v := (-1)) K d12_leftOff_36 (by decide) ?_
        refine j_istore_n (lv' := [(3, .int (-1)), (0, .ref θ.1), (1, .int a1), (2, .int a2)]) K d12_leftOff_37 rfl (by decide) rfl ?_
        refine j_aload_n K 1 d12_leftOff_38 rfl rfl ?_
        refine j_iload_n K 2 d12_leftOff_39 rfl rfl ?_
        obtain ⟨r5, μ5, e5, h⟩ := bd_e h
        refine mcall_i K (c12_wrongIn_ok l D θ N a1 μ4 _ e5) mG_wrongIn mh_wrongIn (by decide) (by decide) rfl (st := []) (Nat.le_of_ble_eq_true rfl) rfl d12_leftOff_40 ?_
        refine j_istore (lv' := [(4, .int r5), (3, .int (-1)), (0, .ref θ.1), (1, .int a1), (2, .int a2)]) K d12_leftOff_43 (by decide) rfl ?_
        refine j_iconst (v := 0) K d12_leftOff_45 (by decide) ?_
        refine j_istore (lv' := [(5, .int 0), (4, .int r5), (3, .int (-1)), (0, .ref θ.1), (1, .int a1), (2, .int a2)]) K d12_leftOff_46 (by decide) rfl ?_
        refine j_sub [3, 4, 5, 2, 1, 0] rfl ?_
        exact t12_leftOff_48 K hr hlk N ρ N a1 a2 (-1) r5 0 μ5 h
      · have h := if_t h q
        refine j_bipush (v := (-2)) K d12_leftOff_29 (by decide) ?_
        exact mret_i K h hr hlk d12_leftOff_31
def b12_ruled_36 (N : Nat) : Nat → Int32 → Int32 → Int32 → Int32 → Mz → Option (Int32 × Mz)
  | 0, _, _, _, _, _ => none
  | n + 1, x1, x2, x3, x4, μ => if x4 < 0 then if x1 = 0 then some (x2, μ) else some (x3, μ) else ck (inb x4 7) (if (ga 15 μ x4.toNatClampNeg) = 0 then lt (x4 + (-1)) (fun v9 => b12_ruled_36 N n x1 x2 x3 v9 μ) else lt (x4 - 1) (fun v6 => lt (x2 + 1) (fun v7 => lt (x4 + (-1)) (fun v8 => b12_ruled_36 N n x1 v7 v6 v8 μ))))
set_option maxHeartbeats 4000000 in
set_option maxRecDepth 100000 in
theorem t12_ruled_36 {p : Program} {l : Launch} {e : Env} {s : State} {m : MethodId} {args : Array Value} {below : List Frame} {meth : Method} {c : Code} {D : va_G} {θ : Th} {A : Nat → Prop} (K : KM p s m args c c12_ruled 5 y12_ruled (some .int) D θ A) (hr : meth.sig.returnType = (some .int)) (hlk : meth.locks = false) (N : Nat) (ρ : Int32 × Mz) : ∀ (n : Nat) (x1 : Int32) (x2 : Int32) (x3 : Int32) (x4 : Int32) (μ : Mz), b12_ruled_36 N n x1 x2 x3 x4 μ = some ρ → JM p l e s m args below meth c D θ A 10 5 (QMi below args s D θ A ρ) μ [(0, .ref θ.1), (1, .int x1), (2, .int x2), (3, .int x3), (4, .int x4)] [] 36 := by
  intro n
  induction n with
  | zero =>
    intro x1 x2 x3 x4 μ h
    exact absurd h (by simp [b12_ruled_36])
  | succ n ih =>
    intro x1 x2 x3 x4 μ h
    rw [b12_ruled_36] at h
    refine j_iload K 4 d12_ruled_36 rfl ?_
    refine j_if_lt (tgt := 68) K d12_ruled_38 (by decide) (fun q => ?_) (fun q => ?_)
    · have h := if_t h q
      refine j_iload_n K 1 d12_ruled_68 rfl rfl ?_
      refine j_if_ne (tgt := 76) K d12_ruled_69 (by decide) (fun q => ?_) (fun q => ?_)
      · have h := if_f h q
        refine j_iload_n K 3 d12_ruled_76 rfl rfl ?_
        exact mret_i K h hr hlk d12_ruled_77
      · have h := if_t h q
        refine j_iload_n K 2 d12_ruled_72 rfl rfl ?_
        refine j_goto (tgt := 77) K d12_ruled_73 (by decide) ?_
        exact mret_i K h hr hlk d12_ruled_77
    · have h := if_f h q
      refine j_aload_n K 0 d12_ruled_41 rfl rfl ?_
      refine mg_isFit K d12_ruled_42 ?_
      refine j_iload K 4 d12_ruled_45 rfl ?_
      obtain ⟨q5, h⟩ := ck_e h
      refine ml_isFit K (inb_e q5) d12_ruled_47 ?_
      refine j_if_ne (tgt := 54) K d12_ruled_48 (by decide) (fun q => ?_) (fun q => ?_)
      · have h := if_f h q
        refine j_iload K 4 d12_ruled_54 rfl ?_
        refine j_iconst (v := 1) K d12_ruled_56 (by decide) ?_
        refine j_isub K d12_ruled_57 ?_
        obtain ⟨v6, e6, h⟩ := lt_e h
        refine j_eqi e6 ?_
        refine j_istore_n (lv' := [(3, .int v6), (0, .ref θ.1), (1, .int x1), (2, .int x2), (4, .int x4)]) K d12_ruled_58 rfl (by decide) rfl ?_
        obtain ⟨v7, e7, h⟩ := lt_e h
        refine j_iinc (k := 3) (v := v7) (lv' := [(2, .int v7), (3, .int v6), (0, .ref θ.1), (1, .int x1), (4, .int x4)]) K d12_ruled_59 rfl (by rw [e7]; rfl) (by decide) rfl ?_
        obtain ⟨v8, e8, h⟩ := lt_e h
        refine j_iinc (k := 4) (v := v8) (lv' := [(4, .int v8), (2, .int v7), (3, .int v6), (0, .ref θ.1), (1, .int x1)]) K d12_ruled_62 rfl (by rw [e8]; rfl) (by decide) rfl ?_
        refine j_goto (tgt := 36) K d12_ruled_65 (by decide) ?_
        refine j_sub [3, 4, 1, 2, 0] rfl ?_
        exact ih x1 v7 v6 v8 μ h
      · have h := if_t h q
        refine j_goto (tgt := 62) K d12_ruled_51 (by decide) ?_
        obtain ⟨v9, e9, h⟩ := lt_e h
        refine j_iinc (k := 4) (v := v9) (lv' := [(4, .int v9), (0, .ref θ.1), (1, .int x1), (2, .int x2), (3, .int x3)]) K d12_ruled_62 rfl (by rw [e9]; rfl) (by decide) rfl ?_
        refine j_goto (tgt := 36) K d12_ruled_65 (by decide) ?_
        refine j_sub [1, 2, 3, 4, 0] rfl ?_
        exact ih x1 x2 x3 v9 μ h
def p12_ruled (N : Nat) (a1 : Int32) (μ : Mz) : Option (Int32 × Mz) := bd (p12_isBook N  μ) (fun r1 μ1 => if r1 = 0 then some ((-3), μ1) else bo (p12_in N (a1.toInt64) 0 1) (fun r2 => if r2 = 0 then some ((-3), μ1) else bo (p12_fillsFits N 0 μ1) (fun μ3 => lt (gi 1 μ3) (fun v4 => b12_ruled_36 N N a1 0 (-2) v4 μ3))))
set_option maxHeartbeats 4000000 in
set_option maxRecDepth 100000 in
theorem c12_ruled_ok (l : Launch) (D : va_G) (θ : Th) (N : Nat) (a1 : Int32) (μ : Mz) (ρ : Int32 × Mz) (h : p12_ruled N a1 μ = some ρ) : CMi l D θ y12_ruled c12_ruled 5 (some .int) 10 [.int a1] μ ρ := by
  intro sz
  refine j_met l [.ref θ.1, .int a1] (by decide +kernel) (Nat.le_of_ble_eq_true rfl) ?_
  intro p e s m args below meth c K hr hlk hnm hs
  generalize va_A (wM θ μ) sz = A at K ⊢
  have K : KM p s m args c c12_ruled 5 y12_ruled (some .int) D θ A := K
  show JM p l e s m args below meth c D θ A 10 5 (QMi below args s D θ A ρ) μ [(0, .ref θ.1), (1, .int a1)] [] 0
  unfold p12_ruled at h
  refine j_aload_n K 0 d12_ruled_0 rfl rfl ?_
  obtain ⟨r1, μ1, e1, h⟩ := bd_e h
  refine mcall_i K (c12_isBook_ok l D θ N  μ _ e1) mG_isBook mh_isBook (by decide) (by decide) rfl (st := []) (Nat.le_of_ble_eq_true rfl) rfl d12_ruled_1 ?_
  refine j_if_eq (tgt := 17) K d12_ruled_4 (by decide) (fun q => ?_) (fun q => ?_)
  · have h := if_t h q
    refine j_bipush (v := (-3)) K d12_ruled_17 (by decide) ?_
    exact mret_i K h hr hlk d12_ruled_19
  · have h := if_f h q
    refine j_iload_n K 1 d12_ruled_7 rfl rfl ?_
    refine j_i2l K d12_ruled_8 ?_
    refine j_lconst (v := 0) K d12_ruled_9 (by decide) ?_
    refine j_lconst (v := 1) K d12_ruled_10 (by decide) ?_
    obtain ⟨r2, e2, h⟩ := bo_e h
    refine mcalls_i K (c12_in_ok l D θ N (a1.toInt64) 0 1 _ e2) mG_in mh_in (by decide) (by decide) rfl (st := []) (Nat.le_of_ble_eq_true rfl) rfl d12_ruled_11 ?_
    refine j_if_ne (tgt := 20) K d12_ruled_14 (by decide) (fun q => ?_) (fun q => ?_)
    · have h := if_f h q
      refine j_aload_n K 0 d12_ruled_20 rfl rfl ?_
      refine j_iconst (v := 0) K d12_ruled_21 (by decide) ?_
      obtain ⟨μ3, e3, h⟩ := bo_e h
      refine mcall_v K (c12_fillsFits_ok l D θ N 0 μ1 _ e3) mG_fillsFits mh_fillsFits (by decide) (by decide) rfl (st := []) (Nat.le_of_ble_eq_true rfl) rfl d12_ruled_22 ?_
      refine j_iconst (v := 0) K d12_ruled_25 (by decide) ?_
      refine j_istore_n (lv' := [(2, .int 0), (0, .ref θ.1), (1, .int a1)]) K d12_ruled_26 rfl (by decide) rfl ?_
      refine j_bipush (v := (-2)) K d12_ruled_27 (by decide) ?_
      refine j_istore_n (lv' := [(3, .int (-2)), (2, .int 0), (0, .ref θ.1), (1, .int a1)]) K d12_ruled_29 rfl (by decide) rfl ?_
      refine j_aload_n K 2 d12_ruled_30 rfl rfl ?_
      refine mg_rules K d12_ruled_31 ?_
      obtain ⟨v4, e4, h⟩ := lt_e h
      refine j_eqi e4 ?_
      refine j_istore (lv' := [(4, .int v4), (3, .int (-2)), (2, .int 0), (0, .ref θ.1), (1, .int a1)]) K d12_ruled_34 (by decide) rfl ?_
      refine j_sub [3, 4, 2, 1, 0] rfl ?_
      exact t12_ruled_36 K hr hlk N ρ N a1 0 (-2) v4 μ3 h
    · have h := if_t h q
      refine j_bipush (v := (-3)) K d12_ruled_17 (by decide) ?_
      exact mret_i K h hr hlk d12_ruled_19
def b12_look_46 (N : Nat) : Nat → Int32 → Int32 → Int32 → Int32 → Mz → Option (Int32 × Mz)
  | 0, _, _, _, _, _ => none
  | n + 1, x2, x3, x4, x5, μ => if (ga 7 μ (3 : Int32).toNatClampNeg) ≤ x5 then if x2 = 0 then some (x3, μ) else some (x4, μ) else bd (p12_alikeAt N x5 μ) (fun r5 μ5 => if r5 = 0 then lt (x5 + 1) (fun v6 => b12_look_46 N n x2 x3 x4 v6 μ5) else if x3 < 0 then lt (x5 + 1) (fun v7 => b12_look_46 N n x2 x5 r5 v7 μ5) else if r5 < x4 then lt (x5 + 1) (fun v8 => b12_look_46 N n x2 x5 r5 v8 μ5) else lt (x5 + 1) (fun v9 => b12_look_46 N n x2 x3 x4 v9 μ5))
set_option maxHeartbeats 4000000 in
set_option maxRecDepth 100000 in
theorem t12_look_46 {p : Program} {l : Launch} {e : Env} {s : State} {m : MethodId} {args : Array Value} {below : List Frame} {meth : Method} {c : Code} {D : va_G} {θ : Th} {A : Nat → Prop} (K : KM p s m args c c12_look 7 y12_look (some .int) D θ A) (hr : meth.sig.returnType = (some .int)) (hlk : meth.locks = false) (N : Nat) (ρ : Int32 × Mz) : ∀ (n : Nat) (x2 : Int32) (x3 : Int32) (x4 : Int32) (x5 : Int32) (μ : Mz), b12_look_46 N n x2 x3 x4 x5 μ = some ρ → JM p l e s m args below meth c D θ A 10 7 (QMi below args s D θ A ρ) μ [(0, .ref θ.1), (2, .int x2), (3, .int x3), (4, .int x4), (5, .int x5)] [] 46 := by
  intro n
  induction n with
  | zero =>
    intro x2 x3 x4 x5 μ h
    exact absurd h (by simp [b12_look_46])
  | succ n ih =>
    intro x2 x3 x4 x5 μ h
    rw [b12_look_46] at h
    refine j_iload K 4 d12_look_46 rfl ?_
    refine j_aload_n K 0 d12_look_48 rfl rfl ?_
    refine mg_said K d12_look_49 ?_
    refine j_iconst (v := 3) K d12_look_52 (by decide) ?_
    refine ml_said K (inb_e (by decide)) d12_look_53 ?_
    refine j_icmp_ge (tgt := 97) K d12_look_54 (by decide) (fun q => ?_) (fun q => ?_)
    · have h := if_t h q
      refine j_iload_n K 1 d12_look_97 rfl rfl ?_
      refine j_if_ne (tgt := 105) K d12_look_98 (by decide) (fun q => ?_) (fun q => ?_)
      · have h := if_f h q
        refine j_iload K 3 d12_look_105 rfl ?_
        exact mret_i K h hr hlk d12_look_107
      · have h := if_t h q
        refine j_iload_n K 2 d12_look_101 rfl rfl ?_
        refine j_goto (tgt := 107) K d12_look_102 (by decide) ?_
        exact mret_i K h hr hlk d12_look_107
    · have h := if_f h q
      refine j_aload_n K 0 d12_look_57 rfl rfl ?_
      refine j_iload K 4 d12_look_58 rfl ?_
      obtain ⟨r5, μ5, e5, h⟩ := bd_e h
      refine mcall_i K (c12_alikeAt_ok l D θ N x5 μ _ e5) mG_alikeAt mh_alikeAt (by decide) (by decide) rfl (st := []) (Nat.le_of_ble_eq_true rfl) rfl d12_look_60 ?_
      refine j_istore (lv' := [(6, .int r5), (0, .ref θ.1), (2, .int x2), (3, .int x3), (4, .int x4), (5, .int x5)]) K d12_look_63 (by decide) rfl ?_
      refine j_iload K 0 d12_look_65 rfl ?_
      refine j_if_eq (tgt := 91) K d12_look_67 (by decide) (fun q => ?_) (fun q => ?_)
      · have h := if_t h q
        obtain ⟨v6, e6, h⟩ := lt_e h
        refine j_iinc (k := 5) (v := v6) (lv' := [(5, .int v6), (6, .int r5), (0, .ref θ.1), (2, .int x2), (3, .int x3), (4, .int x4)]) K d12_look_91 rfl (by rw [e6]; rfl) (by decide) rfl ?_
        refine j_goto (tgt := 46) K d12_look_94 (by decide) ?_
        refine j_sub [2, 3, 4, 5, 0] rfl ?_
        exact ih x2 x3 x4 v6 μ5 h
      · have h := if_f h q
        refine j_iload_n K 3 d12_look_70 rfl rfl ?_
        refine j_if_lt (tgt := 84) K d12_look_71 (by decide) (fun q => ?_) (fun q => ?_)
        · have h := if_t h q
          refine j_iload K 5 d12_look_84 rfl ?_
          refine j_istore_n (lv' := [(3, .int x5), (6, .int r5), (0, .ref θ.1), (2, .int x2), (4, .int x4), (5, .int x5)]) K d12_look_86 rfl (by decide) rfl ?_
          refine j_iload K 1 d12_look_87 rfl ?_
          refine j_istore (lv' := [(4, .int r5), (3, .int x5), (6, .int r5), (0, .ref θ.1), (2, .int x2), (5, .int x5)]) K d12_look_89 (by decide) rfl ?_
          obtain ⟨v7, e7, h⟩ := lt_e h
          refine j_iinc (k := 5) (v := v7) (lv' := [(5, .int v7), (4, .int r5), (3, .int x5), (6, .int r5), (0, .ref θ.1), (2, .int x2)]) K d12_look_91 rfl (by rw [e7]; rfl) (by decide) rfl ?_
          refine j_goto (tgt := 46) K d12_look_94 (by decide) ?_
          refine j_sub [4, 5, 2, 1, 0] rfl ?_
          exact ih x2 x5 r5 v7 μ5 h
        · have h := if_f h q
          refine j_iload K 0 d12_look_74 rfl ?_
          refine j_iload K 4 d12_look_76 rfl ?_
          refine j_icmp_lt (tgt := 84) K d12_look_78 (by decide) (fun q => ?_) (fun q => ?_)
          · have h := if_t h q
            refine j_iload K 5 d12_look_84 rfl ?_
            refine j_istore_n (lv' := [(3, .int x5), (6, .int r5), (0, .ref θ.1), (2, .int x2), (4, .int x4), (5, .int x5)]) K d12_look_86 rfl (by decide) rfl ?_
            refine j_iload K 1 d12_look_87 rfl ?_
            refine j_istore (lv' := [(4, .int r5), (3, .int x5), (6, .int r5), (0, .ref θ.1), (2, .int x2), (5, .int x5)]) K d12_look_89 (by decide) rfl ?_
            obtain ⟨v8, e8, h⟩ := lt_e h
            refine j_iinc (k := 5) (v := v8) (lv' := [(5, .int v8), (4, .int r5), (3, .int x5), (6, .int r5), (0, .ref θ.1), (2, .int x2)]) K d12_look_91 rfl (by rw [e8]; rfl) (by decide) rfl ?_
            refine j_goto (tgt := 46) K d12_look_94 (by decide) ?_
            refine j_sub [4, 5, 2, 1, 0] rfl ?_
            exact ih x2 x5 r5 v8 μ5 h
          · have h := if_f h q
            refine j_goto (tgt := 91) K d12_look_81 (by decide) ?_
            obtain ⟨v9, e9, h⟩ := lt_e h
            refine j_iinc (k := 5) (v := v9) (lv' := [(5, .int v9), (6, .int r5), (0, .ref θ.1), (2, .int x2), (3, .int x3), (4, .int x4)]) K d12_look_91 rfl (by rw [e9]; rfl) (by decide) rfl ?_
            refine j_goto (tgt := 46) K d12_look_94 (by decide) ?_
            refine j_sub [2, 3, 4, 5, 0] rfl ?_
            exact ih x2 x3 x4 v9 μ5 h
def p12_look (N : Nat) (a1 : Int32) (a2 : Int32) (μ : Mz) : Option (Int32 × Mz) := bd (p12_isBook N  μ) (fun r1 μ1 => if r1 = 0 then some ((-1), μ1) else bo (p12_in N (a1.toInt64) 0 60) (fun r2 => if r2 = 0 then some ((-1), μ1) else bo (p12_in N (a2.toInt64) 0 1) (fun r3 => if r3 = 0 then some ((-1), μ1) else bo (p12_fillsFits N a1 μ1) (fun μ4 => b12_look_46 N N a2 (-2) (-2) 0 μ4))))
set_option maxHeartbeats 4000000 in
set_option maxRecDepth 100000 in
theorem c12_look_ok (l : Launch) (D : va_G) (θ : Th) (N : Nat) (a1 : Int32) (a2 : Int32) (μ : Mz) (ρ : Int32 × Mz) (h : p12_look N a1 a2 μ = some ρ) : CMi l D θ y12_look c12_look 7 (some .int) 10 [.int a1, .int a2] μ ρ := by
  intro sz
  refine j_met l [.ref θ.1, .int a1, .int a2] (by decide +kernel) (Nat.le_of_ble_eq_true rfl) ?_
  intro p e s m args below meth c K hr hlk hnm hs
  generalize va_A (wM θ μ) sz = A at K ⊢
  have K : KM p s m args c c12_look 7 y12_look (some .int) D θ A := K
  show JM p l e s m args below meth c D θ A 10 7 (QMi below args s D θ A ρ) μ [(0, .ref θ.1), (1, .int a1), (2, .int a2)] [] 0
  unfold p12_look at h
  refine j_aload_n K 0 d12_look_0 rfl rfl ?_
  obtain ⟨r1, μ1, e1, h⟩ := bd_e h
  refine mcall_i K (c12_isBook_ok l D θ N  μ _ e1) mG_isBook mh_isBook (by decide) (by decide) rfl (st := []) (Nat.le_of_ble_eq_true rfl) rfl d12_look_1 ?_
  refine j_if_eq (tgt := 29) K d12_look_4 (by decide) (fun q => ?_) (fun q => ?_)
  · have h := if_t h q
    refine j_iconst (v := (-1)) K d12_look_29 (by decide) ?_
    exact mret_i K h hr hlk d12_look_30
  · have h := if_f h q
    refine j_iload_n K 1 d12_look_7 rfl rfl ?_
    refine j_i2l K d12_look_8 ?_
    refine j_lconst (v := 0) K d12_look_9 (by decide) ?_
    refine j_ldc2 (v := 60) K (List.mem_cons_of_mem _ mk12_434) d12_look_10 ?_
    obtain ⟨r2, e2, h⟩ := bo_e h
    refine mcalls_i K (c12_in_ok l D θ N (a1.toInt64) 0 60 _ e2) mG_in mh_in (by decide) (by decide) rfl (st := []) (Nat.le_of_ble_eq_true rfl) rfl d12_look_13 ?_
    refine j_if_eq (tgt := 29) K d12_look_16 (by decide) (fun q => ?_) (fun q => ?_)
    · have h := if_t h q
      refine j_iconst (v := (-1)) K d12_look_29 (by decide) ?_
      exact mret_i K h hr hlk d12_look_30
    · have h := if_f h q
      refine j_iload_n K 2 d12_look_19 rfl rfl ?_
      refine j_i2l K d12_look_20 ?_
      refine j_lconst (v := 0) K d12_look_21 (by decide) ?_
      refine j_lconst (v := 1) K d12_look_22 (by decide) ?_
      obtain ⟨r3, e3, h⟩ := bo_e h
      refine mcalls_i K (c12_in_ok l D θ N (a2.toInt64) 0 1 _ e3) mG_in mh_in (by decide) (by decide) rfl (st := []) (Nat.le_of_ble_eq_true rfl) rfl d12_look_23 ?_
      refine j_if_ne (tgt := 31) K d12_look_26 (by decide) (fun q => ?_) (fun q => ?_)
      · have h := if_f h q
        refine j_aload_n K 0 d12_look_31 rfl rfl ?_
        refine j_iload_n K 1 d12_look_32 rfl rfl ?_
        obtain ⟨μ4, e4, h⟩ := bo_e h
        refine mcall_v K (c12_fillsFits_ok l D θ N a1 μ1 _ e4) mG_fillsFits mh_fillsFits (by decide) (by decide) rfl (st := []) (Nat.le_of_ble_eq_true rfl) rfl d12_look_33 ?_
        refine j_bipush (v := (-2)) K d12_look_36 (by decide) ?_
        refine j_istore_n (lv' := [(3, .int (-2)), (0, .ref θ.1), (1, .int a1), (2, .int a2)]) K d12_look_38 rfl (by decide) rfl ?_
        refine j_bipush (v := (-2)) K d12_look_39 (by decide) ?_
        refine j_istore (lv' := [(4, .int (-2)), (3, .int (-2)), (0, .ref θ.1), (1, .int a1), (2, .int a2)]) K d12_look_41 (by decide) rfl ?_
        refine j_iconst (v := 0) K d12_look_43 (by decide) ?_
        refine j_istore (lv' := [(5, .int 0), (4, .int (-2)), (3, .int (-2)), (0, .ref θ.1), (1, .int a1), (2, .int a2)]) K d12_look_44 (by decide) rfl ?_
        refine j_sub [3, 5, 2, 1, 0] rfl ?_
        exact t12_look_46 K hr hlk N ρ N a2 (-2) (-2) 0 μ4 h
      · have h := if_t h q
        refine j_iconst (v := (-1)) K d12_look_29 (by decide) ?_
        exact mret_i K h hr hlk d12_look_30
def b12_clauseHere_71 (N : Nat) (x1 : Int32) (x2 : Int32) (t0 : Int32) (t1 : Int32) (μ : Mz) : Option (Int32 × Mz) := if t1 = t0 then bd (p12_fails N 4 x1 μ) (fun r9 μ9 => ck (b01 r9) (some (r9, μ9))) else lt (si 8 ((gi 8 μ) + 1) μ) (fun μ4 => if x2 = 0 then bd (p12_isMendHere N  μ4) (fun r5 μ5 => ck (b01 r5) (some (r5, μ5))) else bd (p12_bookLineHere N x1 μ4) (fun r7 μ7 => ck (b01 r7) (some (r7, μ7))))
set_option maxHeartbeats 4000000 in
set_option maxRecDepth 100000 in
theorem t12_clauseHere_71 {p : Program} {l : Launch} {e : Env} {s : State} {m : MethodId} {args : Array Value} {below : List Frame} {meth : Method} {c : Code} {D : va_G} {θ : Th} {A : Nat → Prop} (K : KM p s m args c c12_clauseHere 3 y12_clauseHere (some .boolean) D θ A) (hr : meth.sig.returnType = (some .boolean)) (hlk : meth.locks = false) (N : Nat) (ρ : Int32 × Mz) (x1 : Int32) (x2 : Int32) (t0 : Int32) (t1 : Int32) (μ : Mz) (h : b12_clauseHere_71 N x1 x2 t0 t1 μ = some ρ) : JM p l e s m args below meth c D θ A 11 3 (QMi below args s D θ A ρ) μ [(0, .ref θ.1), (1, .int x1), (2, .int x2)] [.int t0, .int t1] 71 := by
  unfold b12_clauseHere_71 at h
  refine j_icmp_ne (tgt := 81) K d12_clauseHere_71 (by decide) (fun q => ?_) (fun q => ?_)
  · have h := if_f h q
    refine j_aload_n K 0 d12_clauseHere_81 rfl rfl ?_
    refine j_dup K d12_clauseHere_82 rfl ?_
    refine mg_lines K d12_clauseHere_83 ?_
    refine j_iconst (v := 1) K d12_clauseHere_86 (by decide) ?_
    refine j_iadd K d12_clauseHere_87 ?_
    obtain ⟨μ4, e4, h⟩ := lt_e h
    refine mp_lines K d12_clauseHere_88 e4 ?_
    refine j_iload_n K 2 d12_clauseHere_91 rfl rfl ?_
    refine j_if_eq (tgt := 103) K d12_clauseHere_92 (by decide) (fun q => ?_) (fun q => ?_)
    · have h := if_t h q
      refine j_aload_n K 0 d12_clauseHere_103 rfl rfl ?_
      obtain ⟨r5, μ5, e5, h⟩ := bd_e h
      refine mcall_i K (c12_isMendHere_ok l D θ N  μ4 _ e5) mG_isMendHere mh_isMendHere (by decide) (by decide) rfl (st := []) (Nat.le_of_ble_eq_true rfl) rfl d12_clauseHere_104 ?_
      obtain ⟨q6, h⟩ := ck_e h
      exact mret_z K h (b01_e q6) hr hlk d12_clauseHere_107
    · have h := if_f h q
      refine j_aload_n K 0 d12_clauseHere_95 rfl rfl ?_
      refine j_iload_n K 1 d12_clauseHere_96 rfl rfl ?_
      obtain ⟨r7, μ7, e7, h⟩ := bd_e h
      refine mcall_i K (c12_bookLineHere_ok l D θ N x1 μ4 _ e7) mG_bookLineHere mh_bookLineHere (by decide) (by decide) rfl (st := []) (Nat.le_of_ble_eq_true rfl) rfl d12_clauseHere_97 ?_
      refine j_goto (tgt := 107) K d12_clauseHere_100 (by decide) ?_
      obtain ⟨q8, h⟩ := ck_e h
      exact mret_z K h (b01_e q8) hr hlk d12_clauseHere_107
  · have h := if_t h q
    refine j_aload_n K 0 d12_clauseHere_74 rfl rfl ?_
    refine j_iconst (v := 4) K d12_clauseHere_75 (by decide) ?_
    refine j_iload_n K 1 d12_clauseHere_76 rfl rfl ?_
    obtain ⟨r9, μ9, e9, h⟩ := bd_e h
    refine mcall_i K (c12_fails_ok l D θ N 4 x1 μ _ e9) mG_fails mh_fails (by decide) (by decide) rfl (st := []) (Nat.le_of_ble_eq_true rfl) rfl d12_clauseHere_77 ?_
    obtain ⟨q10, h⟩ := ck_e h
    exact mret_z K h (b01_e q10) hr hlk d12_clauseHere_80
def b12_clauseHere_56 (N : Nat) (x1 : Int32) (x2 : Int32) (μ : Mz) : Option (Int32 × Mz) := if x2 = 0 then b12_clauseHere_71 N x1 x2 12 (gi 8 μ) μ else b12_clauseHere_71 N x1 x2 40 (gi 8 μ) μ
set_option maxHeartbeats 4000000 in
set_option maxRecDepth 100000 in
theorem t12_clauseHere_56 {p : Program} {l : Launch} {e : Env} {s : State} {m : MethodId} {args : Array Value} {below : List Frame} {meth : Method} {c : Code} {D : va_G} {θ : Th} {A : Nat → Prop} (K : KM p s m args c c12_clauseHere 3 y12_clauseHere (some .boolean) D θ A) (hr : meth.sig.returnType = (some .boolean)) (hlk : meth.locks = false) (N : Nat) (ρ : Int32 × Mz) (x1 : Int32) (x2 : Int32) (μ : Mz) (h : b12_clauseHere_56 N x1 x2 μ = some ρ) : JM p l e s m args below meth c D θ A 11 3 (QMi below args s D θ A ρ) μ [(0, .ref θ.1), (1, .int x1), (2, .int x2)] [] 56 := by
  unfold b12_clauseHere_56 at h
  refine j_aload_n K 0 d12_clauseHere_56 rfl rfl ?_
  refine mg_lines K d12_clauseHere_57 ?_
  refine j_iload_n K 2 d12_clauseHere_60 rfl rfl ?_
  refine j_if_eq (tgt := 69) K d12_clauseHere_61 (by decide) (fun q => ?_) (fun q => ?_)
  · have h := if_t h q
    refine j_bipush (v := 12) K d12_clauseHere_69 (by decide) ?_
    exact t12_clauseHere_71 K hr hlk N ρ x1 x2 12 (gi 8 μ) μ h
  · have h := if_f h q
    refine j_bipush (v := 40) K d12_clauseHere_64 (by decide) ?_
    refine j_goto (tgt := 71) K d12_clauseHere_66 (by decide) ?_
    exact t12_clauseHere_71 K hr hlk N ρ x1 x2 40 (gi 8 μ) μ h
def b12_clauseHere_24 (N : Nat) (x1 : Int32) (t0 : Int32) (μ : Mz) : Option (Int32 × Mz) := if t0 = 0 then bd (p12_isWord N 1835363940 μ) (fun r3 μ3 => if r3 = 0 then bd (p12_fails N 0 x1 μ3) (fun r11 μ11 => ck (b01 r11) (some (r11, μ11))) else b12_clauseHere_56 N x1 t0 μ3) else bd (p12_isBookWord N  μ) (fun r13 μ13 => if r13 = 0 then bd (p12_fails N 0 x1 μ13) (fun r14 μ14 => ck (b01 r14) (some (r14, μ14))) else b12_clauseHere_56 N x1 t0 μ13)
set_option maxHeartbeats 4000000 in
set_option maxRecDepth 100000 in
theorem t12_clauseHere_24 {p : Program} {l : Launch} {e : Env} {s : State} {m : MethodId} {args : Array Value} {below : List Frame} {meth : Method} {c : Code} {D : va_G} {θ : Th} {A : Nat → Prop} (K : KM p s m args c c12_clauseHere 3 y12_clauseHere (some .boolean) D θ A) (hr : meth.sig.returnType = (some .boolean)) (hlk : meth.locks = false) (N : Nat) (ρ : Int32 × Mz) (x1 : Int32) (t0 : Int32) (μ : Mz) (h : b12_clauseHere_24 N x1 t0 μ = some ρ) : JM p l e s m args below meth c D θ A 11 3 (QMi below args s D θ A ρ) μ [(0, .ref θ.1), (1, .int x1)] [.int t0] 24 := by
  unfold b12_clauseHere_24 at h
  refine j_istore_n (lv' := [(2, .int t0), (0, .ref θ.1), (1, .int x1)]) K d12_clauseHere_24 rfl (by decide) rfl ?_
  refine j_iload_n K 0 d12_clauseHere_25 rfl rfl ?_
  refine j_if_eq (tgt := 39) K d12_clauseHere_26 (by decide) (fun q => ?_) (fun q => ?_)
  · have h := if_t h q
    refine j_aload_n K 1 d12_clauseHere_39 rfl rfl ?_
    refine j_ldc2 (v := 1835363940) K (List.mem_cons_of_mem _ mk12_252) d12_clauseHere_40 ?_
    obtain ⟨r3, μ3, e3, h⟩ := bd_e h
    refine mcall_i K (c12_isWord_ok l D θ N 1835363940 μ _ e3) mG_isWord mh_isWord (by decide) (by decide) rfl (st := []) (Nat.le_of_ble_eq_true rfl) rfl d12_clauseHere_43 ?_
    refine j_if_ne (tgt := 56) K d12_clauseHere_46 (by decide) (fun q => ?_) (fun q => ?_)
    · have h := if_f h q
      refine j_sub [1, 2, 0] rfl ?_
      exact t12_clauseHere_56 K hr hlk N ρ x1 t0 μ3 h
    · have h := if_t h q
      refine j_aload_n K 1 d12_clauseHere_49 rfl rfl ?_
      refine j_iconst (v := 0) K d12_clauseHere_50 (by decide) ?_
      refine j_iload_n K 2 d12_clauseHere_51 rfl rfl ?_
      obtain ⟨r11, μ11, e11, h⟩ := bd_e h
      refine mcall_i K (c12_fails_ok l D θ N 0 x1 μ3 _ e11) mG_fails mh_fails (by decide) (by decide) rfl (st := []) (Nat.le_of_ble_eq_true rfl) rfl d12_clauseHere_52 ?_
      obtain ⟨q12, h⟩ := ck_e h
      exact mret_z K h (b01_e q12) hr hlk d12_clauseHere_55
  · have h := if_f h q
    refine j_aload_n K 1 d12_clauseHere_29 rfl rfl ?_
    obtain ⟨r13, μ13, e13, h⟩ := bd_e h
    refine mcall_i K (c12_isBookWord_ok l D θ N  μ _ e13) mG_isBookWord mh_isBookWord (by decide) (by decide) rfl (st := []) (Nat.le_of_ble_eq_true rfl) rfl d12_clauseHere_30 ?_
    refine j_if_ne (tgt := 56) K d12_clauseHere_33 (by decide) (fun q => ?_) (fun q => ?_)
    · have h := if_f h q
      refine j_sub [1, 2, 0] rfl ?_
      exact t12_clauseHere_56 K hr hlk N ρ x1 t0 μ13 h
    · have h := if_t h q
      refine j_goto (tgt := 49) K d12_clauseHere_36 (by decide) ?_
      refine j_aload_n K 1 d12_clauseHere_49 rfl rfl ?_
      refine j_iconst (v := 0) K d12_clauseHere_50 (by decide) ?_
      refine j_iload_n K 2 d12_clauseHere_51 rfl rfl ?_
      obtain ⟨r14, μ14, e14, h⟩ := bd_e h
      refine mcall_i K (c12_fails_ok l D θ N 0 x1 μ13 _ e14) mG_fails mh_fails (by decide) (by decide) rfl (st := []) (Nat.le_of_ble_eq_true rfl) rfl d12_clauseHere_52 ?_
      obtain ⟨q15, h⟩ := ck_e h
      exact mret_z K h (b01_e q15) hr hlk d12_clauseHere_55
def p12_clauseHere (N : Nat)  (μ : Mz) : Option (Int32 × Mz) := bd (p12_see N  μ) (fun r1 μ1 => lt (gi 2 μ1) (fun v2 => if (gi 5 μ1) = 6 then b12_clauseHere_24 N v2 1 μ1 else b12_clauseHere_24 N v2 0 μ1))
set_option maxHeartbeats 4000000 in
set_option maxRecDepth 100000 in
theorem c12_clauseHere_ok (l : Launch) (D : va_G) (θ : Th) (N : Nat)  (μ : Mz) (ρ : Int32 × Mz) (h : p12_clauseHere N  μ = some ρ) : CMi l D θ y12_clauseHere c12_clauseHere 3 (some .boolean) 11 [] μ ρ := by
  intro sz
  refine j_met l [.ref θ.1] (by decide +kernel) (Nat.le_of_ble_eq_true rfl) ?_
  intro p e s m args below meth c K hr hlk hnm hs
  generalize va_A (wM θ μ) sz = A at K ⊢
  have K : KM p s m args c c12_clauseHere 3 y12_clauseHere (some .boolean) D θ A := K
  show JM p l e s m args below meth c D θ A 11 3 (QMi below args s D θ A ρ) μ [(0, .ref θ.1)] [] 0
  unfold p12_clauseHere at h
  refine j_aload_n K 0 d12_clauseHere_0 rfl rfl ?_
  obtain ⟨r1, μ1, e1, h⟩ := bd_e h
  refine mcall_i K (c12_see_ok l D θ N  μ _ e1) mG_see mh_see (by decide) (by decide) rfl (st := []) (Nat.le_of_ble_eq_true rfl) rfl d12_clauseHere_1 ?_
  refine j_pop K d12_clauseHere_4 rfl ?_
  refine j_aload_n K 0 d12_clauseHere_5 rfl rfl ?_
  refine mg_next K d12_clauseHere_6 ?_
  obtain ⟨v2, e2, h⟩ := lt_e h
  refine j_eqi e2 ?_
  refine j_istore_n (lv' := [(1, .int v2), (0, .ref θ.1)]) K d12_clauseHere_9 rfl (by decide) rfl ?_
  refine j_aload_n K 1 d12_clauseHere_10 rfl rfl ?_
  refine mg_text K d12_clauseHere_11 ?_
  refine j_bipush (v := 6) K d12_clauseHere_14 (by decide) ?_
  refine j_icmp_ne (tgt := 23) K d12_clauseHere_16 (by decide) (fun q => ?_) (fun q => ?_)
  · have h := if_f h q
    refine j_iconst (v := 0) K d12_clauseHere_23 (by decide) ?_
    refine j_sub [1, 0] rfl ?_
    exact t12_clauseHere_24 K hr hlk N ρ v2 0 μ1 h
  · have h := if_t h q
    refine j_iconst (v := 1) K d12_clauseHere_19 (by decide) ?_
    refine j_goto (tgt := 24) K d12_clauseHere_20 (by decide) ?_
    refine j_sub [1, 0] rfl ?_
    exact t12_clauseHere_24 K hr hlk N ρ v2 1 μ1 h
def b12_readsAll_88 (N : Nat)  (μ : Mz) : Option (Int32 × Mz) := lt (si 0 0 μ) (fun μ8 => if (gi 3 μ8) = 0 then some (1, μ8) else some (0, μ8))
set_option maxHeartbeats 4000000 in
set_option maxRecDepth 100000 in
theorem t12_readsAll_88 {p : Program} {l : Launch} {e : Env} {s : State} {m : MethodId} {args : Array Value} {below : List Frame} {meth : Method} {c : Code} {D : va_G} {θ : Th} {A : Nat → Prop} (K : KM p s m args c c12_readsAll 2 y12_readsAll (some .boolean) D θ A) (hr : meth.sig.returnType = (some .boolean)) (hlk : meth.locks = false) (N : Nat) (ρ : Int32 × Mz)  (μ : Mz) (h : b12_readsAll_88 N  μ = some ρ) : JM p l e s m args below meth c D θ A 12 2 (QMi below args s D θ A ρ) μ [(0, .ref θ.1)] [] 88 := by
  unfold b12_readsAll_88 at h
  refine j_aload_n K 0 d12_readsAll_88 rfl rfl ?_
  refine j_iconst (v := 0) K d12_readsAll_89 (by decide) ?_
  obtain ⟨μ8, e8, h⟩ := lt_e h
  refine mp_taped K d12_readsAll_90 e8 ?_
  refine j_aload_n K 0 d12_readsAll_93 rfl rfl ?_
  refine mg_wrong K d12_readsAll_94 ?_
  refine j_if_ne (tgt := 104) K d12_readsAll_97 (by decide) (fun q => ?_) (fun q => ?_)
  · have h := if_f h q
    refine j_iconst (v := 0) K d12_readsAll_104 (by decide) ?_
    exact mret_z K h rfl hr hlk d12_readsAll_105
  · have h := if_t h q
    refine j_iconst (v := 1) K d12_readsAll_100 (by decide) ?_
    refine j_goto (tgt := 105) K d12_readsAll_101 (by decide) ?_
    exact mret_z K h rfl hr hlk d12_readsAll_105
def b12_readsAll_66 (N : Nat) (x1 : Int32) (μ : Mz) : Option (Int32 × Mz) := if x1 = 0 then b12_readsAll_88 N μ else bd (p12_see N  μ) (fun r9 μ9 => if r9 = (-1) then b12_readsAll_88 N μ9 else bd (p12_fails N 0 (gi 2 μ9) μ9) (fun r10 μ10 => b12_readsAll_88 N μ10))
set_option maxHeartbeats 4000000 in
set_option maxRecDepth 100000 in
theorem t12_readsAll_66 {p : Program} {l : Launch} {e : Env} {s : State} {m : MethodId} {args : Array Value} {below : List Frame} {meth : Method} {c : Code} {D : va_G} {θ : Th} {A : Nat → Prop} (K : KM p s m args c c12_readsAll 2 y12_readsAll (some .boolean) D θ A) (hr : meth.sig.returnType = (some .boolean)) (hlk : meth.locks = false) (N : Nat) (ρ : Int32 × Mz) (x1 : Int32) (μ : Mz) (h : b12_readsAll_66 N x1 μ = some ρ) : JM p l e s m args below meth c D θ A 12 2 (QMi below args s D θ A ρ) μ [(0, .ref θ.1), (1, .int x1)] [] 66 := by
  unfold b12_readsAll_66 at h
  refine j_iload_n K 1 d12_readsAll_66 rfl rfl ?_
  refine j_if_eq (tgt := 88) K d12_readsAll_67 (by decide) (fun q => ?_) (fun q => ?_)
  · have h := if_t h q
    refine j_sub [0] rfl ?_
    exact t12_readsAll_88 K hr hlk N ρ  μ h
  · have h := if_f h q
    refine j_aload_n K 0 d12_readsAll_70 rfl rfl ?_
    obtain ⟨r9, μ9, e9, h⟩ := bd_e h
    refine mcall_i K (c12_see_ok l D θ N  μ _ e9) mG_see mh_see (by decide) (by decide) rfl (st := []) (Nat.le_of_ble_eq_true rfl) rfl d12_readsAll_71 ?_
    refine j_iconst (v := (-1)) K d12_readsAll_74 (by decide) ?_
    refine j_icmp_eq (tgt := 88) K d12_readsAll_75 (by decide) (fun q => ?_) (fun q => ?_)
    · have h := if_t h q
      refine j_sub [0] rfl ?_
      exact t12_readsAll_88 K hr hlk N ρ  μ9 h
    · have h := if_f h q
      refine j_aload_n K 0 d12_readsAll_78 rfl rfl ?_
      refine j_iconst (v := 0) K d12_readsAll_79 (by decide) ?_
      refine j_aload_n K 0 d12_readsAll_80 rfl rfl ?_
      refine mg_next K d12_readsAll_81 ?_
      obtain ⟨r10, μ10, e10, h⟩ := bd_e h
      refine mcall_i K (c12_fails_ok l D θ N 0 (gi 2 μ9) μ9 _ e10) mG_fails mh_fails (by decide) (by decide) rfl (st := []) (Nat.le_of_ble_eq_true rfl) rfl d12_readsAll_84 ?_
      refine j_pop K d12_readsAll_87 rfl ?_
      refine j_sub [0] rfl ?_
      exact t12_readsAll_88 K hr hlk N ρ  μ10 h
def b12_readsAll_35 (N : Nat) : Nat → Int32 → Mz → Option (Int32 × Mz)
  | 0, _, _ => none
  | n + 1, x1, μ => if x1 = 0 then b12_readsAll_66 N x1 μ else bd (p12_see N  μ) (fun r11 μ11 => if r11 = 59 then lt (si 2 ((gi 2 μ11) + 1) μ11) (fun μ12 => bd (p12_clauseHere N  μ12) (fun r13 μ13 => b12_readsAll_35 N n r13 μ13)) else b12_readsAll_66 N x1 μ11)
set_option maxHeartbeats 4000000 in
set_option maxRecDepth 100000 in
theorem t12_readsAll_35 {p : Program} {l : Launch} {e : Env} {s : State} {m : MethodId} {args : Array Value} {below : List Frame} {meth : Method} {c : Code} {D : va_G} {θ : Th} {A : Nat → Prop} (K : KM p s m args c c12_readsAll 2 y12_readsAll (some .boolean) D θ A) (hr : meth.sig.returnType = (some .boolean)) (hlk : meth.locks = false) (N : Nat) (ρ : Int32 × Mz) : ∀ (n : Nat) (x1 : Int32) (μ : Mz), b12_readsAll_35 N n x1 μ = some ρ → JM p l e s m args below meth c D θ A 12 2 (QMi below args s D θ A ρ) μ [(0, .ref θ.1), (1, .int x1)] [] 35 := by
  intro n
  induction n with
  | zero =>
    intro x1 μ h
    exact absurd h (by simp [b12_readsAll_35])
  | succ n ih =>
    intro x1 μ h
    rw [b12_readsAll_35] at h
    refine j_iload_n K 1 d12_readsAll_35 rfl rfl ?_
    refine j_if_eq (tgt := 66) K d12_readsAll_36 (by decide) (fun q => ?_) (fun q => ?_)
    · have h := if_t h q
      exact t12_readsAll_66 K hr hlk N ρ x1 μ h
    · have h := if_f h q
      refine j_aload_n K 0 d12_readsAll_39 rfl rfl ?_
      obtain ⟨r11, μ11, e11, h⟩ := bd_e h
      refine mcall_i K (c12_see_ok l D θ N  μ _ e11) mG_see mh_see (by decide) (by decide) rfl (st := []) (Nat.le_of_ble_eq_true rfl) rfl d12_readsAll_40 ?_
      refine j_bipush (v := 59) K d12_readsAll_43 (by decide) ?_
      refine j_icmp_ne (tgt := 66) K d12_readsAll_45 (by decide) (fun q => ?_) (fun q => ?_)
      · have h := if_f h q
        exact t12_readsAll_66 K hr hlk N ρ x1 μ11 h
      · have h := if_t h q
        refine j_aload_n K 0 d12_readsAll_48 rfl rfl ?_
        refine j_dup K d12_readsAll_49 rfl ?_
        refine mg_next K d12_readsAll_50 ?_
        refine j_iconst (v := 1) K d12_readsAll_53 (by decide) ?_
        refine j_iadd K d12_readsAll_54 ?_
        obtain ⟨μ12, e12, h⟩ := lt_e h
        refine mp_next K d12_readsAll_55 e12 ?_
        refine j_aload_n K 0 d12_readsAll_58 rfl rfl ?_
        obtain ⟨r13, μ13, e13, h⟩ := bd_e h
        refine mcall_i K (c12_clauseHere_ok l D θ N  μ12 _ e13) mG_clauseHere mh_clauseHere (by decide) (by decide) rfl (st := []) (Nat.le_of_ble_eq_true rfl) rfl d12_readsAll_59 ?_
        refine j_istore_n (lv' := [(1, .int r13), (0, .ref θ.1)]) K d12_readsAll_62 rfl (by decide) rfl ?_
        refine j_goto (tgt := 35) K d12_readsAll_63 (by decide) ?_
        refine j_sub [1, 0] rfl ?_
        exact ih r13 μ13 h
def p12_readsAll (N : Nat)  (μ : Mz) : Option (Int32 × Mz) := ck (inb (gi 5 μ) 7) (lt (sa 2 (upd (ga 2 μ) (gi 5 μ).toNatClampNeg 0) μ) (fun μ2 => lt (si 8 0 μ2) (fun μ3 => lt (si 2 0 μ3) (fun μ4 => lt (si 3 0 μ4) (fun μ5 => lt (si 6 0 μ5) (fun μ6 => bd (p12_clauseHere N  μ6) (fun r7 μ7 => b12_readsAll_35 N N r7 μ7)))))))
set_option maxHeartbeats 4000000 in
set_option maxRecDepth 100000 in
theorem c12_readsAll_ok (l : Launch) (D : va_G) (θ : Th) (N : Nat)  (μ : Mz) (ρ : Int32 × Mz) (h : p12_readsAll N  μ = some ρ) : CMi l D θ y12_readsAll c12_readsAll 2 (some .boolean) 12 [] μ ρ := by
  intro sz
  refine j_met l [.ref θ.1] (by decide +kernel) (Nat.le_of_ble_eq_true rfl) ?_
  intro p e s m args below meth c K hr hlk hnm hs
  generalize va_A (wM θ μ) sz = A at K ⊢
  have K : KM p s m args c c12_readsAll 2 y12_readsAll (some .boolean) D θ A := K
  show JM p l e s m args below meth c D θ A 12 2 (QMi below args s D θ A ρ) μ [(0, .ref θ.1)] [] 0
  unfold p12_readsAll at h
  refine j_aload_n K 0 d12_readsAll_0 rfl rfl ?_
  refine mg_length K d12_readsAll_1 ?_
  refine j_aload_n K 0 d12_readsAll_4 rfl rfl ?_
  refine mg_text K d12_readsAll_5 ?_
  refine j_iconst (v := 0) K d12_readsAll_8 (by decide) ?_
  obtain ⟨q1, h⟩ := ck_e h
  obtain ⟨μ2, e2, h⟩ := lt_e h
  refine ms_length K (inb_e q1) d12_readsAll_9 e2 ?_
  refine j_aload_n K 0 d12_readsAll_10 rfl rfl ?_
  refine j_iconst (v := 0) K d12_readsAll_11 (by decide) ?_
  obtain ⟨μ3, e3, h⟩ := lt_e h
  refine mp_lines K d12_readsAll_12 e3 ?_
  refine j_aload_n K 0 d12_readsAll_15 rfl rfl ?_
  refine j_iconst (v := 0) K d12_readsAll_16 (by decide) ?_
  obtain ⟨μ4, e4, h⟩ := lt_e h
  refine mp_next K d12_readsAll_17 e4 ?_
  refine j_aload_n K 0 d12_readsAll_20 rfl rfl ?_
  refine j_iconst (v := 0) K d12_readsAll_21 (by decide) ?_
  obtain ⟨μ5, e5, h⟩ := lt_e h
  refine mp_wrong K d12_readsAll_22 e5 ?_
  refine j_aload_n K 0 d12_readsAll_25 rfl rfl ?_
  refine j_iconst (v := 0) K d12_readsAll_26 (by decide) ?_
  obtain ⟨μ6, e6, h⟩ := lt_e h
  refine mp_made K d12_readsAll_27 e6 ?_
  refine j_aload_n K 0 d12_readsAll_30 rfl rfl ?_
  obtain ⟨r7, μ7, e7, h⟩ := bd_e h
  refine mcall_i K (c12_clauseHere_ok l D θ N  μ6 _ e7) mG_clauseHere mh_clauseHere (by decide) (by decide) rfl (st := []) (Nat.le_of_ble_eq_true rfl) rfl d12_readsAll_31 ?_
  refine j_istore_n (lv' := [(1, .int r7), (0, .ref θ.1)]) K d12_readsAll_34 rfl (by decide) rfl ?_
  refine j_sub [1, 0] rfl ?_
  exact t12_readsAll_35 K hr hlk N ρ N r7 μ7 h
def p12_rule (N : Nat)  (μ : Mz) : Option (Int32 × Mz) := if (gi 1 μ) = 6 then some ((-1), μ) else lt (si 5 (gi 1 μ) μ) (fun μ1 => ck (inb (gi 5 μ1) 6) (lt (sa 4 (upd (ga 4 μ1) (gi 5 μ1).toNatClampNeg 0) μ1) (fun μ3 => bd (p12_readsAll N  μ3) (fun r4 μ4 => if r4 = 0 then some ((-2) - (gi 3 μ4), μ4) else lt (si 1 ((gi 1 μ4) + 1) μ4) (fun μ5 => some ((gi 1 μ5) - 1, μ5))))))
set_option maxHeartbeats 4000000 in
set_option maxRecDepth 100000 in
theorem c12_rule_ok (l : Launch) (D : va_G) (θ : Th) (N : Nat)  (μ : Mz) (ρ : Int32 × Mz) (h : p12_rule N  μ = some ρ) : CMi l D θ y12_rule c12_rule 1 (some .int) 13 [] μ ρ := by
  intro sz
  refine j_met l [.ref θ.1] (by decide +kernel) (Nat.le_of_ble_eq_true rfl) ?_
  intro p e s m args below meth c K hr hlk hnm hs
  generalize va_A (wM θ μ) sz = A at K ⊢
  have K : KM p s m args c c12_rule 1 y12_rule (some .int) D θ A := K
  show JM p l e s m args below meth c D θ A 13 1 (QMi below args s D θ A ρ) μ [(0, .ref θ.1)] [] 0
  unfold p12_rule at h
  refine j_aload_n K 0 d12_rule_0 rfl rfl ?_
  refine mg_rules K d12_rule_1 ?_
  refine j_bipush (v := 6) K d12_rule_4 (by decide) ?_
  refine j_icmp_ne (tgt := 11) K d12_rule_6 (by decide) (fun q => ?_) (fun q => ?_)
  · have h := if_f h q
    refine j_aload_n K 0 d12_rule_11 rfl rfl ?_
    refine j_aload_n K 0 d12_rule_12 rfl rfl ?_
    refine mg_rules K d12_rule_13 ?_
    obtain ⟨μ1, e1, h⟩ := lt_e h
    refine mp_text K d12_rule_16 e1 ?_
    refine j_aload_n K 0 d12_rule_19 rfl rfl ?_
    refine mg_clauses K d12_rule_20 ?_
    refine j_aload_n K 0 d12_rule_23 rfl rfl ?_
    refine mg_text K d12_rule_24 ?_
    refine j_iconst (v := 0) K d12_rule_27 (by decide) ?_
    obtain ⟨q2, h⟩ := ck_e h
    obtain ⟨μ3, e3, h⟩ := lt_e h
    refine ms_clauses K (inb_e q2) d12_rule_28 e3 ?_
    refine j_aload_n K 0 d12_rule_29 rfl rfl ?_
    obtain ⟨r4, μ4, e4, h⟩ := bd_e h
    refine mcall_i K (c12_readsAll_ok l D θ N  μ3 _ e4) mG_readsAll mh_readsAll (by decide) (by decide) rfl (st := []) (Nat.le_of_ble_eq_true rfl) rfl d12_rule_30 ?_
    refine j_if_ne (tgt := 44) K d12_rule_33 (by decide) (fun q => ?_) (fun q => ?_)
    · have h := if_f h q
      refine j_aload_n K 0 d12_rule_44 rfl rfl ?_
      refine j_dup K d12_rule_45 rfl ?_
      refine mg_rules K d12_rule_46 ?_
      refine j_iconst (v := 1) K d12_rule_49 (by decide) ?_
      refine j_iadd K d12_rule_50 ?_
      obtain ⟨μ5, e5, h⟩ := lt_e h
      refine mp_rules K d12_rule_51 e5 ?_
      refine j_aload_n K 0 d12_rule_54 rfl rfl ?_
      refine mg_rules K d12_rule_55 ?_
      refine j_iconst (v := 1) K d12_rule_58 (by decide) ?_
      refine j_isub K d12_rule_59 ?_
      exact mret_i K h hr hlk d12_rule_60
    · have h := if_t h q
      refine j_bipush (v := (-2)) K d12_rule_36 (by decide) ?_
      refine j_aload_n K 0 d12_rule_38 rfl rfl ?_
      refine mg_wrong K d12_rule_39 ?_
      refine j_isub K d12_rule_42 ?_
      exact mret_i K h hr hlk d12_rule_43
  · have h := if_t h q
    refine j_iconst (v := (-1)) K d12_rule_9 (by decide) ?_
    exact mret_i K h hr hlk d12_rule_10
def b12_book_44 (N : Nat) : Nat → Int32 → Mz → Option (Int32 × Mz)
  | 0, _, _ => none
  | n + 1, x1, μ => if 129 ≤ x1 then bo (p12_begins N  μ) (fun μ3 => lt (si 16 0 μ3) (fun μ4 => some (ga 7 μ4 (3 : Int32).toNatClampNeg, μ4))) else if 98 ≤ x1 then ck (inb x1 129) (lt (sa 7 (upd (ga 7 μ) x1.toNatClampNeg 0) μ) (fun μ6 => lt (x1 + 1) (fun v7 => b12_book_44 N n v7 μ6))) else ck (inb x1 98) (lt (ga 5 μ x1.toNatClampNeg) (fun v9 => ck (inb x1 129) (lt (sa 7 (upd (ga 7 μ) x1.toNatClampNeg v9) μ) (fun μ11 => lt (x1 + 1) (fun v12 => b12_book_44 N n v12 μ11)))))
set_option maxHeartbeats 4000000 in
set_option maxRecDepth 100000 in
theorem t12_book_44 {p : Program} {l : Launch} {e : Env} {s : State} {m : MethodId} {args : Array Value} {below : List Frame} {meth : Method} {c : Code} {D : va_G} {θ : Th} {A : Nat → Prop} (K : KM p s m args c c12_book 2 y12_book (some .int) D θ A) (hr : meth.sig.returnType = (some .int)) (hlk : meth.locks = false) (N : Nat) (ρ : Int32 × Mz) : ∀ (n : Nat) (x1 : Int32) (μ : Mz), b12_book_44 N n x1 μ = some ρ → JM p l e s m args below meth c D θ A 13 2 (QMi below args s D θ A ρ) μ [(0, .ref θ.1), (1, .int x1)] [] 44 := by
  intro n
  induction n with
  | zero =>
    intro x1 μ h
    exact absurd h (by simp [b12_book_44])
  | succ n ih =>
    intro x1 μ h
    rw [b12_book_44] at h
    refine j_iload_n K 1 d12_book_44 rfl rfl ?_
    refine j_sipush (v := 129) K d12_book_45 (by decide) ?_
    refine j_icmp_ge (tgt := 79) K d12_book_48 (by decide) (fun q => ?_) (fun q => ?_)
    · have h := if_t h q
      refine j_aload_n K 0 d12_book_79 rfl rfl ?_
      obtain ⟨μ3, e3, h⟩ := bo_e h
      refine mcall_v K (c12_begins_ok l D θ N  μ _ e3) mG_begins mh_begins (by decide) (by decide) rfl (st := []) (Nat.le_of_ble_eq_true rfl) rfl d12_book_80 ?_
      refine j_aload_n K 0 d12_book_83 rfl rfl ?_
      refine j_iconst (v := 0) K d12_book_84 (by decide) ?_
      obtain ⟨μ4, e4, h⟩ := lt_e h
      refine mp_undone K d12_book_85 e4 ?_
      refine j_aload_n K 0 d12_book_88 rfl rfl ?_
      refine mg_said K d12_book_89 ?_
      refine j_iconst (v := 3) K d12_book_92 (by decide) ?_
      refine ml_said K (inb_e (by decide)) d12_book_93 ?_
      exact mret_i K h hr hlk d12_book_94
    · have h := if_f h q
      refine j_aload_n K 0 d12_book_51 rfl rfl ?_
      refine mg_said K d12_book_52 ?_
      refine j_iload_n K 1 d12_book_55 rfl rfl ?_
      refine j_iload_n K 1 d12_book_56 rfl rfl ?_
      refine j_bipush (v := 98) K d12_book_57 (by decide) ?_
      refine j_icmp_ge (tgt := 71) K d12_book_59 (by decide) (fun q => ?_) (fun q => ?_)
      · have h := if_t h q
        refine j_iconst (v := 0) K d12_book_71 (by decide) ?_
        obtain ⟨q5, h⟩ := ck_e h
        obtain ⟨μ6, e6, h⟩ := lt_e h
        refine ms_said K (inb_e q5) d12_book_72 e6 ?_
        obtain ⟨v7, e7, h⟩ := lt_e h
        refine j_iinc (k := 1) (v := v7) (lv' := [(1, .int v7), (0, .ref θ.1)]) K d12_book_73 rfl (by rw [e7]; rfl) (by decide) rfl ?_
        refine j_goto (tgt := 44) K d12_book_76 (by decide) ?_
        refine j_sub [1, 0] rfl ?_
        exact ih v7 μ6 h
      · have h := if_f h q
        refine j_aload_n K 0 d12_book_62 rfl rfl ?_
        refine mg_read K d12_book_63 ?_
        refine j_iload_n K 1 d12_book_66 rfl rfl ?_
        obtain ⟨q8, h⟩ := ck_e h
        refine ml_read K (inb_e q8) d12_book_67 ?_
        refine j_goto (tgt := 72) K d12_book_68 (by decide) ?_
        obtain ⟨v9, e9, h⟩ := lt_e h
        refine j_eqi e9 ?_
        obtain ⟨q10, h⟩ := ck_e h
        obtain ⟨μ11, e11, h⟩ := lt_e h
        refine ms_said K (inb_e q10) d12_book_72 e11 ?_
        obtain ⟨v12, e12, h⟩ := lt_e h
        refine j_iinc (k := 1) (v := v12) (lv' := [(1, .int v12), (0, .ref θ.1)]) K d12_book_73 rfl (by rw [e12]; rfl) (by decide) rfl ?_
        refine j_goto (tgt := 44) K d12_book_76 (by decide) ?_
        refine j_sub [1, 0] rfl ?_
        exact ih v12 μ11 h
def b12_book_8 (N : Nat) : Nat → Int32 → Mz → Option (Int32 × Mz)
  | 0, _, _ => none
  | n + 1, x1, μ => if 98 ≤ x1 then bd (p12_readsAll N  μ) (fun r2 μ2 => if r2 = 0 then some ((-2) - (gi 3 μ2), μ2) else b12_book_44 N N 0 μ2) else ck (inb x1 98) (lt (sa 5 (upd (ga 5 μ) x1.toNatClampNeg 0) μ) (fun μ14 => lt (x1 + 1) (fun v15 => b12_book_8 N n v15 μ14)))
set_option maxHeartbeats 4000000 in
set_option maxRecDepth 100000 in
theorem t12_book_8 {p : Program} {l : Launch} {e : Env} {s : State} {m : MethodId} {args : Array Value} {below : List Frame} {meth : Method} {c : Code} {D : va_G} {θ : Th} {A : Nat → Prop} (K : KM p s m args c c12_book 2 y12_book (some .int) D θ A) (hr : meth.sig.returnType = (some .int)) (hlk : meth.locks = false) (N : Nat) (ρ : Int32 × Mz) : ∀ (n : Nat) (x1 : Int32) (μ : Mz), b12_book_8 N n x1 μ = some ρ → JM p l e s m args below meth c D θ A 13 2 (QMi below args s D θ A ρ) μ [(0, .ref θ.1), (1, .int x1)] [] 8 := by
  intro n
  induction n with
  | zero =>
    intro x1 μ h
    exact absurd h (by simp [b12_book_8])
  | succ n ih =>
    intro x1 μ h
    rw [b12_book_8] at h
    refine j_iload_n K 1 d12_book_8 rfl rfl ?_
    refine j_bipush (v := 98) K d12_book_9 (by decide) ?_
    refine j_icmp_ge (tgt := 27) K d12_book_11 (by decide) (fun q => ?_) (fun q => ?_)
    · have h := if_t h q
      refine j_aload_n K 0 d12_book_27 rfl rfl ?_
      obtain ⟨r2, μ2, e2, h⟩ := bd_e h
      refine mcall_i K (c12_readsAll_ok l D θ N  μ _ e2) mG_readsAll mh_readsAll (by decide) (by decide) rfl (st := []) (Nat.le_of_ble_eq_true rfl) rfl d12_book_28 ?_
      refine j_if_ne (tgt := 42) K d12_book_31 (by decide) (fun q => ?_) (fun q => ?_)
      · have h := if_f h q
        refine j_iconst (v := 0) K d12_book_42 (by decide) ?_
        refine j_istore_n (lv' := [(1, .int 0), (0, .ref θ.1)]) K d12_book_43 rfl (by decide) rfl ?_
        refine j_sub [1, 0] rfl ?_
        exact t12_book_44 K hr hlk N ρ N 0 μ2 h
      · have h := if_t h q
        refine j_bipush (v := (-2)) K d12_book_34 (by decide) ?_
        refine j_aload_n K 0 d12_book_36 rfl rfl ?_
        refine mg_wrong K d12_book_37 ?_
        refine j_isub K d12_book_40 ?_
        exact mret_i K h hr hlk d12_book_41
    · have h := if_f h q
      refine j_aload_n K 0 d12_book_14 rfl rfl ?_
      refine mg_read K d12_book_15 ?_
      refine j_iload_n K 1 d12_book_18 rfl rfl ?_
      refine j_iconst (v := 0) K d12_book_19 (by decide) ?_
      obtain ⟨q13, h⟩ := ck_e h
      obtain ⟨μ14, e14, h⟩ := lt_e h
      refine ms_read K (inb_e q13) d12_book_20 e14 ?_
      obtain ⟨v15, e15, h⟩ := lt_e h
      refine j_iinc (k := 1) (v := v15) (lv' := [(1, .int v15), (0, .ref θ.1)]) K d12_book_21 rfl (by rw [e15]; rfl) (by decide) rfl ?_
      refine j_goto (tgt := 8) K d12_book_24 (by decide) ?_
      refine j_sub [1, 0] rfl ?_
      exact ih v15 μ14 h
def p12_book (N : Nat)  (μ : Mz) : Option (Int32 × Mz) := lt (si 5 6 μ) (fun μ1 => b12_book_8 N N 0 μ1)
set_option maxHeartbeats 4000000 in
set_option maxRecDepth 100000 in
theorem c12_book_ok (l : Launch) (D : va_G) (θ : Th) (N : Nat)  (μ : Mz) (ρ : Int32 × Mz) (h : p12_book N  μ = some ρ) : CMi l D θ y12_book c12_book 2 (some .int) 13 [] μ ρ := by
  intro sz
  refine j_met l [.ref θ.1] (by decide +kernel) (Nat.le_of_ble_eq_true rfl) ?_
  intro p e s m args below meth c K hr hlk hnm hs
  generalize va_A (wM θ μ) sz = A at K ⊢
  have K : KM p s m args c c12_book 2 y12_book (some .int) D θ A := K
  show JM p l e s m args below meth c D θ A 13 2 (QMi below args s D θ A ρ) μ [(0, .ref θ.1)] [] 0
  unfold p12_book at h
  refine j_aload_n K 0 d12_book_0 rfl rfl ?_
  refine j_bipush (v := 6) K d12_book_1 (by decide) ?_
  obtain ⟨μ1, e1, h⟩ := lt_e h
  refine mp_text K d12_book_3 e1 ?_
  refine j_iconst (v := 0) K d12_book_6 (by decide) ?_
  refine j_istore_n (lv' := [(1, .int 0), (0, .ref θ.1)]) K d12_book_7 rfl (by decide) rfl ?_
  refine j_sub [1, 0] rfl ?_
  exact t12_book_8 K hr hlk N ρ N 0 μ1 h
