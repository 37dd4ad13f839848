def b12_leastOf_2 (N : Nat) : Nat → Int32 → Int32 → Option (Int32)
  | 0, _, _ => none
  | n + 1, x0, x1 => bo (p12_isOf N x0 x1) (fun r1 => if r1 = 0 then lt (x1 + 1) (fun v2 => b12_leastOf_2 N n x0 v2) else some x1)
set_option maxHeartbeats 4000000 in
set_option maxRecDepth 100000 in
theorem t12_leastOf_2 {p : Program} {l : Launch} {e : Env} {s : State} {m : MethodId} {args : Array Value} {below : List Frame} {meth : Method} {c : Code} {D : va_G} {θ : Th} {A : Nat → Prop} (K : KM p s m args c c12_leastOf 2 y12_leastOf (some .int) D θ A) (hr : meth.sig.returnType = (some .int)) (hlk : meth.locks = false) (N : Nat) (ρ : Int32) : ∀ (n : Nat) (x0 : Int32) (x1 : Int32), b12_leastOf_2 N n x0 x1 = some ρ → JS p l e s m args below meth c D θ A 2 2 (QSi below args s D θ A ρ) [(0, .int x0), (1, .int x1)] [] 2 := by
  intro n
  induction n with
  | zero =>
    intro x0 x1 h
    exact absurd h (by simp [b12_leastOf_2])
  | succ n ih =>
    intro x0 x1 h
    rw [b12_leastOf_2] at h
    refine j_iload_n K 0 d12_leastOf_2 rfl rfl ?_
    refine j_iload_n K 1 d12_leastOf_3 rfl rfl ?_
    obtain ⟨r1, e1, h⟩ := bo_e h
    refine scalls_i K (c12_isOf_ok l D θ N x0 x1 _ e1) mG_isOf mh_isOf (by decide) (by decide) rfl (st := []) (Nat.le_of_ble_eq_true rfl) rfl d12_leastOf_4 ?_
    refine j_if_ne (tgt := 16) K d12_leastOf_7 (by decide) (fun q => ?_) (fun q => ?_)
    · have h := if_f h q
      refine j_iload_n K 1 d12_leastOf_16 rfl rfl ?_
      exact sret_i K h hr hlk d12_leastOf_17
    · have h := if_t h q
      obtain ⟨v2, e2, h⟩ := lt_e h
      refine j_iinc (k := 1) (v := v2) (lv' := [(1, .int v2), (0, .int x0)]) K d12_leastOf_10 rfl (by rw [e2]; rfl) (by decide) rfl ?_
      refine j_goto (tgt := 2) K d12_leastOf_13 (by decide) ?_
      refine j_sub [1, 0] rfl ?_
      exact ih x0 v2 h
def p12_leastOf (N : Nat) (a1 : Int32) : Option (Int32) := b12_leastOf_2 N N a1 0
set_option maxHeartbeats 4000000 in
set_option maxRecDepth 100000 in
theorem c12_leastOf_ok (l : Launch) (D : va_G) (θ : Th) (N : Nat) (a1 : Int32) (ρ : Int32) (h : p12_leastOf N a1 = some ρ) : CSi l D θ y12_leastOf c12_leastOf 2 (some .int) 2 [.int a1] ρ := by
  intro sz
  refine j_met l [.int a1] (by decide +kernel) (Nat.le_of_ble_eq_true rfl) ?_
  intro p e s m args below meth c K hr hlk hnm hs
  generalize va_A ([] : va_W) sz = A at K ⊢
  have K : KM p s m args c c12_leastOf 2 y12_leastOf (some .int) D θ A := K
  show JS p l e s m args below meth c D θ A 2 2 (QSi below args s D θ A ρ) [(0, .int a1)] [] 0
  unfold p12_leastOf at h
  refine j_iconst (v := 0) K d12_leastOf_0 (by decide) ?_
  refine j_istore_n (lv' := [(1, .int 0), (0, .int a1)]) K d12_leastOf_1 rfl (by decide) rfl ?_
  refine j_sub [1, 0] rfl ?_
  exact t12_leastOf_2 K hr hlk N ρ N a1 0 h
def b12_twice_50 (N : Nat) (k33 : Int32 → Int32 → Int32 → Int32 → Int32 → Mz → Option (Int32 × Mz)) : Nat → Int32 → Int32 → Int32 → Int32 → Int32 → Int32 → Mz → Option (Int32 × Mz)
  | 0, _, _, _, _, _, _, _ => none
  | n + 1, x1, x2, x3, x4, x5, x6, μ => if (ga 7 μ (3 : Int32).toNatClampNeg) ≤ x6 then lt (x5 + 1) (fun v4 => k33 x1 x2 x3 x4 v4 μ) else bd (p12_alikeFrom N x5 x6 μ) (fun r5 μ5 => if x2 < r5 then bd (p12_alikeFrom N x5 x6 μ5) (fun r6 μ6 => lt (x6 + 1) (fun v7 => b12_twice_50 N k33 n x1 r6 x5 x6 x5 v7 μ6)) else lt (x6 + 1) (fun v8 => b12_twice_50 N k33 n x1 x2 x3 x4 x5 v8 μ5))
set_option maxHeartbeats 4000000 in
set_option maxRecDepth 100000 in
theorem t12_twice_50 {p : Program} {l : Launch} {e : Env} {s : State} {m : MethodId} {args : Array Value} {below : List Frame} {meth : Method} {c : Code} {D : va_G} {θ : Th} {A : Nat → Prop} (K : KM p s m args c c12_twice 7 y12_twice (some .int) D θ A) (hr : meth.sig.returnType = (some .int)) (hlk : meth.locks = false) (N : Nat) (ρ : Int32 × Mz) (k33 : Int32 → Int32 → Int32 → Int32 → Int32 → Mz → Option (Int32 × Mz)) (hk33 : ∀ (x1 : Int32) (x2 : Int32) (x3 : Int32) (x4 : Int32) (x5 : Int32) (μ : Mz), k33 x1 x2 x3 x4 x5 μ = some ρ → JM p l e s m args below meth c D θ A 2 7 (QMi below args s D θ A ρ) μ [(0, .ref θ.1), (1, .int x1), (2, .int x2), (3, .int x3), (4, .int x4), (5, .int x5)] [] 33) : ∀ (n : Nat) (x1 : Int32) (x2 : Int32) (x3 : Int32) (x4 : Int32) (x5 : Int32) (x6 : Int32) (μ : Mz), b12_twice_50 N k33 n x1 x2 x3 x4 x5 x6 μ = some ρ → JM p l e s m args below meth c D θ A 2 7 (QMi below args s D θ A ρ) μ [(0, .ref θ.1), (1, .int x1), (2, .int x2), (3, .int x3), (4, .int x4), (5, .int x5), (6, .int x6)] [] 50 := by
  intro n
  induction n with
  | zero =>
    intro x1 x2 x3 x4 x5 x6 μ h
    exact absurd h (by simp [b12_twice_50])
  | succ n ih =>
    intro x1 x2 x3 x4 x5 x6 μ h
    rw [b12_twice_50] at h
    refine j_iload K 6 d12_twice_50 rfl ?_
    refine j_aload_n K 0 d12_twice_52 rfl rfl ?_
    refine mg_said K d12_twice_53 ?_
    refine j_iconst (v := 3) K d12_twice_56 (by decide) ?_
    refine ml_said K (inb_e (by decide)) d12_twice_57 ?_
    refine j_icmp_ge (tgt := 98) K d12_twice_58 (by decide) (fun q => ?_) (fun q => ?_)
    · have h := if_t h q
      obtain ⟨v4, e4, h⟩ := lt_e h
      refine j_iinc (k := 5) (v := v4) (lv' := [(5, .int v4), (0, .ref θ.1), (1, .int x1), (2, .int x2), (3, .int x3), (4, .int x4), (6, .int x6)]) K d12_twice_98 rfl (by rw [e4]; rfl) (by decide) rfl ?_
      refine j_goto (tgt := 33) K d12_twice_101 (by decide) ?_
      refine j_sub [1, 2, 3, 4, 5, 0] rfl ?_
      exact hk33 x1 x2 x3 x4 v4 μ h
    · have h := if_f h q
      refine j_aload_n K 0 d12_twice_61 rfl rfl ?_
      refine j_iload K 5 d12_twice_62 rfl ?_
      refine j_iload K 6 d12_twice_64 rfl ?_
      obtain ⟨r5, μ5, e5, h⟩ := bd_e h
      refine mcall_i K (c12_alikeFrom_ok l D θ N x5 x6 μ _ e5) mG_alikeFrom mh_alikeFrom (by decide) (by decide) rfl (st := []) (Nat.le_of_ble_eq_true rfl) rfl d12_twice_66 ?_
      refine j_iload_n K 2 d12_twice_69 rfl rfl ?_
      refine j_icmp_gt (tgt := 76) K d12_twice_70 (by decide) (fun q => ?_) (fun q => ?_)
      · have h := if_t h q
        refine j_aload_n K 0 d12_twice_76 rfl rfl ?_
        refine j_iload K 5 d12_twice_77 rfl ?_
        refine j_iload K 6 d12_twice_79 rfl ?_
        obtain ⟨r6, μ6, e6, h⟩ := bd_e h
        refine mcall_i K (c12_alikeFrom_ok l D θ N x5 x6 μ5 _ e6) mG_alikeFrom mh_alikeFrom (by decide) (by decide) rfl (st := []) (Nat.le_of_ble_eq_true rfl) rfl d12_twice_81 ?_
        refine j_istore_n (lv' := [(2, .int r6), (0, .ref θ.1), (1, .int x1), (3, .int x3), (4, .int x4), (5, .int x5), (6, .int x6)]) K d12_twice_84 rfl (by decide) rfl ?_
        refine j_iload K 5 d12_twice_85 rfl ?_
        refine j_istore_n (lv' := [(3, .int x5), (2, .int r6), (0, .ref θ.1), (1, .int x1), (4, .int x4), (5, .int x5), (6, .int x6)]) K d12_twice_87 rfl (by decide) rfl ?_
        refine j_iload K 6 d12_twice_88 rfl ?_
        refine j_istore (lv' := [(4, .int x6), (3, .int x5), (2, .int r6), (0, .ref θ.1), (1, .int x1), (5, .int x5), (6, .int x6)]) K d12_twice_90 (by decide) rfl ?_
        obtain ⟨v7, e7, h⟩ := lt_e h
        refine j_iinc (k := 6) (v := v7) (lv' := [(6, .int v7), (4, .int x6), (3, .int x5), (2, .int r6), (0, .ref θ.1), (1, .int x1), (5, .int x5)]) K d12_twice_92 rfl (by rw [e7]; rfl) (by decide) rfl ?_
        refine j_goto (tgt := 50) K d12_twice_95 (by decide) ?_
        refine j_sub [4, 5, 3, 2, 1, 6, 0] rfl ?_
        exact ih x1 r6 x5 x6 x5 v7 μ6 h
      · have h := if_f h q
        refine j_goto (tgt := 92) K d12_twice_73 (by decide) ?_
        obtain ⟨v8, e8, h⟩ := lt_e h
        refine j_iinc (k := 6) (v := v8) (lv' := [(6, .int v8), (0, .ref θ.1), (1, .int x1), (2, .int x2), (3, .int x3), (4, .int x4), (5, .int x5)]) K d12_twice_92 rfl (by rw [e8]; rfl) (by decide) rfl ?_
        refine j_goto (tgt := 50) K d12_twice_95 (by decide) ?_
        refine j_sub [1, 2, 3, 4, 5, 6, 0] rfl ?_
        exact ih x1 x2 x3 x4 x5 v8 μ5 h
def b12_twice_33 (N : Nat) : Nat → Int32 → Int32 → Int32 → Int32 → Int32 → Mz → Option (Int32 × Mz)
  | 0, _, _, _, _, _, _ => none
  | n + 1, x1, x2, x3, x4, x5, μ => if (ga 7 μ (3 : Int32).toNatClampNeg) ≤ x5 then if x1 = 0 then some (x2, μ) else if x1 = 1 then some (x3, μ) else some (x4, μ) else lt (x5 + 1) (fun v3 => b12_twice_50 N (b12_twice_33 N n) N x1 x2 x3 x4 x5 v3 μ)
set_option maxHeartbeats 4000000 in
set_option maxRecDepth 100000 in
theorem t12_twice_33 {p : Program} {l : Launch} {e : Env} {s : State} {m : MethodId} {args : Array Value} {below : List Frame} {meth : Method} {c : Code} {D : va_G} {θ : Th} {A : Nat → Prop} (K : KM p s m args c c12_twice 7 y12_twice (some .int) D θ A) (hr : meth.sig.returnType = (some .int)) (hlk : meth.locks = false) (N : Nat) (ρ : Int32 × Mz) : ∀ (n : Nat) (x1 : Int32) (x2 : Int32) (x3 : Int32) (x4 : Int32) (x5 : Int32) (μ : Mz), b12_twice_33 N n x1 x2 x3 x4 x5 μ = some ρ → JM p l e s m args below meth c D θ A 2 7 (QMi below args s D θ A ρ) μ [(0, .ref θ.1), (1, .int x1), (2, .int x2), (3, .int x3), (4, .int x4), (5, .int x5)] [] 33 := by
  intro n
  induction n with
  | zero =>
    intro x1 x2 x3 x4 x5 μ h
    exact absurd h (by simp [b12_twice_33])
  | succ n ih =>
    intro x1 x2 x3 x4 x5 μ h
    rw [b12_twice_33] at h
    refine j_iload K 5 d12_twice_33 rfl ?_
    refine j_aload_n K 0 d12_twice_35 rfl rfl ?_
    refine mg_said K d12_twice_36 ?_
    refine j_iconst (v := 3) K d12_twice_39 (by decide) ?_
    refine ml_said K (inb_e (by decide)) d12_twice_40 ?_
    refine j_icmp_ge (tgt := 104) K d12_twice_41 (by decide) (fun q => ?_) (fun q => ?_)
    · have h := if_t h q
      refine j_iload_n K 1 d12_twice_104 rfl rfl ?_
      refine j_if_ne (tgt := 112) K d12_twice_105 (by decide) (fun q => ?_) (fun q => ?_)
      · have h := if_f h q
        refine j_iload_n K 1 d12_twice_112 rfl rfl ?_
        refine j_iconst (v := 1) K d12_twice_113 (by decide) ?_
        refine j_icmp_ne (tgt := 121) K d12_twice_114 (by decide) (fun q => ?_) (fun q => ?_)
        · have h := if_f h q
          refine j_iload K 4 d12_twice_121 rfl ?_
          exact mret_i K h hr hlk d12_twice_123
        · have h := if_t h q
          refine j_iload_n K 3 d12_twice_117 rfl rfl ?_
          refine j_goto (tgt := 123) K d12_twice_118 (by decide) ?_
          exact mret_i K h hr hlk d12_twice_123
      · have h := if_t h q
        refine j_iload_n K 2 d12_twice_108 rfl rfl ?_
        refine j_goto (tgt := 123) K d12_twice_109 (by decide) ?_
        exact mret_i K h hr hlk d12_twice_123
    · have h := if_f h q
      refine j_iload K 5 d12_twice_44 rfl ?_
      refine j_iconst (v := 1) K d12_twice_46 (by decide) ?_
      refine j_iadd K d12_twice_47 ?_
      obtain ⟨v3, e3, h⟩ := lt_e h
      refine j_eqi e3 ?_
      refine j_istore (lv' := [(6, .int v3), (0, .ref θ.1), (1, .int x1), (2, .int x2), (3, .int x3), (4, .int x4), (5, .int x5)]) K d12_twice_48 (by decide) rfl ?_
      refine j_sub [1, 2, 3, 4, 5, 6, 0] rfl ?_
      exact t12_twice_50 K hr hlk N ρ (b12_twice_33 N n) ih N x1 x2 x3 x4 x5 v3 μ h
def p12_twice (N : Nat) (a1 : Int32) (μ : Mz) : Option (Int32 × Mz) := bd (p12_isBook N  μ) (fun r1 μ1 => if r1 = 0 then some ((-1), μ1) else bo (p12_in N (a1.toInt64) 0 2) (fun r2 => if r2 = 0 then some ((-1), μ1) else b12_twice_33 N N a1 0 (-2) (-2) 0 μ1))
set_option maxHeartbeats 4000000 in
set_option maxRecDepth 100000 in
theorem c12_twice_ok (l : Launch) (D : va_G) (θ : Th) (N : Nat) (a1 : Int32) (μ : Mz) (ρ : Int32 × Mz) (h : p12_twice N a1 μ = some ρ) : CMi l D θ y12_twice c12_twice 7 (some .int) 2 [.int a1] μ ρ := by
  intro sz
  refine j_met l [.ref θ.1, .int a1] (by decide +kernel) (Nat.le_of_ble_eq_true rfl) ?_
  intro p e s m args below meth c K hr hlk hnm hs
  generalize va_A (wM θ μ) sz = A at K ⊢
  have K : KM p s m args c c12_twice 7 y12_twice (some .int) D θ A := K
  show JM p l e s m args below meth c D θ A 2 7 (QMi below args s D θ A ρ) μ [(0, .ref θ.1), (1, .int a1)] [] 0
  unfold p12_twice at h
  refine j_aload_n K 0 d12_twice_0 rfl rfl ?_
  obtain ⟨r1, μ1, e1, h⟩ := bd_e h
  refine mcall_i K (c12_isBook_ok l D θ N  μ _ e1) mG_isBook mh_isBook (by decide) (by decide) rfl (st := []) (Nat.le_of_ble_eq_true rfl) rfl d12_twice_1 ?_
  refine j_if_eq (tgt := 19) K d12_twice_4 (by decide) (fun q => ?_) (fun q => ?_)
  · have h := if_t h q
    refine j_iconst (v := (-1)) K d12_twice_19 (by decide) ?_
    exact mret_i K h hr hlk d12_twice_20
  · have h := if_f h q
    refine j_iload_n K 1 d12_twice_7 rfl rfl ?_
    refine j_i2l K d12_twice_8 ?_
    refine j_lconst (v := 0) K d12_twice_9 (by decide) ?_
    refine j_ldc2 (v := 2) K (List.mem_cons_of_mem _ mk12_398) d12_twice_10 ?_
    obtain ⟨r2, e2, h⟩ := bo_e h
    refine mcalls_i K (c12_in_ok l D θ N (a1.toInt64) 0 2 _ e2) mG_in mh_in (by decide) (by decide) rfl (st := []) (Nat.le_of_ble_eq_true rfl) rfl d12_twice_13 ?_
    refine j_if_ne (tgt := 21) K d12_twice_16 (by decide) (fun q => ?_) (fun q => ?_)
    · have h := if_f h q
      refine j_iconst (v := 0) K d12_twice_21 (by decide) ?_
      refine j_istore_n (lv' := [(2, .int 0), (0, .ref θ.1), (1, .int a1)]) K d12_twice_22 rfl (by decide) rfl ?_
      refine j_bipush (v := (-2)) K d12_twice_23 (by decide) ?_
      refine j_istore_n (lv' := [(3, .int (-2)), (2, .int 0), (0, .ref θ.1), (1, .int a1)]) K d12_twice_25 rfl (by decide) rfl ?_
      refine j_bipush (v := (-2)) K d12_twice_26 (by decide) ?_
      refine j_istore (lv' := [(4, .int (-2)), (3, .int (-2)), (2, .int 0), (0, .ref θ.1), (1, .int a1)]) K d12_twice_28 (by decide) rfl ?_
      refine j_iconst (v := 0) K d12_twice_30 (by decide) ?_
      refine j_istore (lv' := [(5, .int 0), (4, .int (-2)), (3, .int (-2)), (2, .int 0), (0, .ref θ.1), (1, .int a1)]) K d12_twice_31 (by decide) rfl ?_
      refine j_sub [4, 5, 3, 2, 1, 0] rfl ?_
      exact t12_twice_33 K hr hlk N ρ N a1 0 (-2) (-2) 0 μ1 h
    · have h := if_t h q
      refine j_iconst (v := (-1)) K d12_twice_19 (by decide) ?_
      exact mret_i K h hr hlk d12_twice_20
def b12_apart_194 (N : Nat) (k57 : Int32 → Int32 → Int32 → Int32 → Mz → Option (Int32 × Mz)) (k66 : Int32 → Int32 → Int32 → Int32 → Int32 → Mz → Option (Int32 × Mz)) (x1 : Int32) (x2 : Int32) (x3 : Int32) (x4 : Int32) (x5 : Int32) (x6 : Int32) (μ : Mz) : Option (Int32 × Mz) := ck (inb ((11 * x4) + x5) 121) (lt (sa 12 (upd (ga 12 μ) ((11 * x4) + x5).toNatClampNeg x6) μ) (fun μ8 => lt (x5 + 1) (fun v9 => k66 x1 x2 x3 x4 v9 μ8)))
set_option maxHeartbeats 4000000 in
set_option maxRecDepth 100000 in
theorem t12_apart_194 {p : Program} {l : Launch} {e : Env} {s : State} {m : MethodId} {args : Array Value} {below : List Frame} {meth : Method} {c : Code} {D : va_G} {θ : Th} {A : Nat → Prop} (K : KM p s m args c c12_apart 8 y12_apart (some .int) D θ A) (hr : meth.sig.returnType = (some .int)) (hlk : meth.locks = false) (N : Nat) (ρ : Int32 × Mz) (k57 : Int32 → Int32 → Int32 → Int32 → Mz → Option (Int32 × Mz)) (hk57 : ∀ (x1 : Int32) (x2 : Int32) (x3 : Int32) (x4 : Int32) (μ : Mz), k57 x1 x2 x3 x4 μ = some ρ → JM p l e s m args below meth c D θ A 2 8 (QMi below args s D θ A ρ) μ [(0, .ref θ.1), (1, .int x1), (2, .int x2), (3, .int x3), (4, .int x4)] [] 57) (k66 : Int32 → Int32 → Int32 → Int32 → Int32 → Mz → Option (Int32 × Mz)) (hk66 : ∀ (x1 : Int32) (x2 : Int32) (x3 : Int32) (x4 : Int32) (x5 : Int32) (μ : Mz), k66 x1 x2 x3 x4 x5 μ = some ρ → JM p l e s m args below meth c D θ A 2 8 (QMi below args s D θ A ρ) μ [(0, .ref θ.1), (1, .int x1), (2, .int x2), (3, .int x3), (4, .int x4), (5, .int x5)] [] 66) (x1 : Int32) (x2 : Int32) (x3 : Int32) (x4 : Int32) (x5 : Int32) (x6 : Int32) (μ : Mz) (h : b12_apart_194 N k57 k66 x1 x2 x3 x4 x5 x6 μ = some ρ) : JM p l e s m args below meth c D θ A 2 8 (QMi below args s D θ A ρ) μ [(0, .ref θ.1), (1, .int x1), (2, .int x2), (3, .int x3), (4, .int x4), (5, .int x5), (6, .int x6)] [] 194 := by
  unfold b12_apart_194 at h
  refine j_aload_n K 0 d12_apart_194 rfl rfl ?_
  refine mg_farOf K d12_apart_195 ?_
  refine j_bipush (v := 11) K d12_apart_198 (by decide) ?_
  refine j_iload K 4 d12_apart_200 rfl ?_
  refine j_imul K d12_apart_202 ?_
  refine j_iload K 5 d12_apart_203 rfl ?_
  refine j_iadd K d12_apart_205 ?_
  refine j_iload K 6 d12_apart_206 rfl ?_
  obtain ⟨q7, h⟩ := ck_e h
  obtain ⟨μ8, e8, h⟩ := lt_e h
  refine ms_farOf K (inb_e q7) d12_apart_208 e8 ?_
  obtain ⟨v9, e9, h⟩ := lt_e h
  refine j_iinc (k := 5) (v := v9) (lv' := [(5, .int v9), (0, .ref θ.1), (1, .int x1), (2, .int x2), (3, .int x3), (4, .int x4), (6, .int x6)]) K d12_apart_209 rfl (by rw [e9]; rfl) (by decide) rfl ?_
  refine j_goto (tgt := 66) K d12_apart_212 (by decide) ?_
  refine j_sub [1, 2, 3, 4, 5, 0] rfl ?_
  exact hk66 x1 x2 x3 x4 v9 μ8 h
def b12_apart_149 (N : Nat) (k57 : Int32 → Int32 → Int32 → Int32 → Mz → Option (Int32 × Mz)) (k66 : Int32 → Int32 → Int32 → Int32 → Int32 → Mz → Option (Int32 × Mz)) (x1 : Int32) (x2 : Int32) (x3 : Int32) (x4 : Int32) (x5 : Int32) (t0 : Int32) (t1 : Int32) (μ : Mz) : Option (Int32 × Mz) := lt (t1 + t0) (fun v16 => lt ((11 * (x4 - 1)) + x5) (fun v17 => ck (inb v17 121) (lt (((11 * x4) + x5) - 1) (fun v19 => ck (inb v19 121) (bo (p12_lesser N (ga 12 μ v17.toNatClampNeg) (ga 12 μ v19.toNatClampNeg)) (fun r21 => bo (p12_lesser N v16 (1 + r21)) (fun r22 => b12_apart_194 N k57 k66 x1 x2 x3 x4 x5 r22 μ)))))))
set_option maxHeartbeats 4000000 in
set_option maxRecDepth 100000 in
theorem t12_apart_149 {p : Program} {l : Launch} {e : Env} {s : State} {m : MethodId} {args : Array Value} {below : List Frame} {meth : Method} {c : Code} {D : va_G} {θ : Th} {A : Nat → Prop} (K : KM p s m args c c12_apart 8 y12_apart (some .int) D θ A) (hr : meth.sig.returnType = (some .int)) (hlk : meth.locks = false) (N : Nat) (ρ : Int32 × Mz) (k57 : Int32 → Int32 → Int32 → Int32 → Mz → Option (Int32 × Mz)) (hk57 : ∀ (x1 : Int32) (x2 : Int32) (x3 : Int32) (x4 : Int32) (μ : Mz), k57 x1 x2 x3 x4 μ = some ρ → JM p l e s m args below meth c D θ A 2 8 (QMi below args s D θ A ρ) μ [(0, .ref θ.1), (1, .int x1), (2, .int x2), (3, .int x3), (4, .int x4)] [] 57) (k66 : Int32 → Int32 → Int32 → Int32 → Int32 → Mz → Option (Int32 × Mz)) (hk66 : ∀ (x1 : Int32) (x2 : Int32) (x3 : Int32) (x4 : Int32) (x5 : Int32) (μ : Mz), k66 x1 x2 x3 x4 x5 μ = some ρ → JM p l e s m args below meth c D θ A 2 8 (QMi below args s D θ A ρ) μ [(0, .ref θ.1), (1, .int x1), (2, .int x2), (3, .int x3), (4, .int x4), (5, .int x5)] [] 66) (x1 : Int32) (x2 : Int32) (x3 : Int32) (x4 : Int32) (x5 : Int32) (t0 : Int32) (t1 : Int32) (μ : Mz) (h : b12_apart_149 N k57 k66 x1 x2 x3 x4 x5 t0 t1 μ = some ρ) : JM p l e s m args below meth c D θ A 2 8 (QMi below args s D θ A ρ) μ [(0, .ref θ.1), (1, .int x1), (2, .int x2), (3, .int x3), (4, .int x4), (5, .int x5)] [.int t0, .int t1] 149 := by
  unfold b12_apart_149 at h
  refine j_iadd K d12_apart_149 ?_
  obtain ⟨v16, e16, h⟩ := lt_e h
  refine j_eqi e16 ?_
  refine j_istore (lv' := [(7, .int v16), (0, .ref θ.1), (1, .int x1), (2, .int x2), (3, .int x3), (4, .int x4), (5, .int x5)]) K d12_apart_150 (by decide) rfl ?_
  refine j_iload K 0 d12_apart_152 rfl ?_
  refine j_iconst (v := 1) K d12_apart_154 (by decide) ?_
  refine j_aload_n K 1 d12_apart_155 rfl rfl ?_
  refine mg_farOf K d12_apart_156 ?_
  refine j_bipush (v := 11) K d12_apart_159 (by decide) ?_
  refine j_iload K 5 d12_apart_161 rfl ?_
  refine j_iconst (v := 1) K d12_apart_163 (by decide) ?_
  refine j_isub K d12_apart_164 ?_
  refine j_imul K d12_apart_165 ?_
  refine j_iload K 6 d12_apart_166 rfl ?_
  refine j_iadd K d12_apart_168 ?_
  obtain ⟨v17, e17, h⟩ := lt_e h
  refine j_eqi e17 ?_
  obtain ⟨q18, h⟩ := ck_e h
  refine ml_farOf K (inb_e q18) d12_apart_169 ?_
  refine j_aload_n K 1 d12_apart_170 rfl rfl ?_
  refine mg_farOf K d12_apart_171 ?_
  refine j_bipush (v := 11) K d12_apart_174 (by decide) ?_
  refine j_iload K 5 d12_apart_176 rfl ?_
  refine j_imul K d12_apart_178 ?_
  refine j_iload K 6 d12_apart_179 rfl ?_
  refine j_iadd K d12_apart_181 ?_
  refine j_iconst (v := 1) K d12_apart_182 (by decide) ?_
  refine j_isub K d12_apart_183 ?_
  obtain ⟨v19, e19, h⟩ := lt_e h
  refine j_eqi e19 ?_
  obtain ⟨q20, h⟩ := ck_e h
  refine ml_farOf K (inb_e q20) d12_apart_184 ?_
  obtain ⟨r21, e21, h⟩ := bo_e h
  refine mcalls_i K (c12_lesser_ok l D θ N (ga 12 μ v17.toNatClampNeg) (ga 12 μ v19.toNatClampNeg) _ e21) mG_lesser mh_lesser (by decide) (by decide) rfl (st := [.int 1, .int v16]) (Nat.le_of_ble_eq_true rfl) rfl d12_apart_185 ?_
  refine j_iadd K d12_apart_188 ?_
  obtain ⟨r22, e22, h⟩ := bo_e h
  refine mcalls_i K (c12_lesser_ok l D θ N v16 (1 + r21) _ e22) mG_lesser mh_lesser (by decide) (by decide) rfl (st := []) (Nat.le_of_ble_eq_true rfl) rfl d12_apart_189 ?_
  refine j_istore (lv' := [(6, .int r22), (7, .int v16), (0, .ref θ.1), (1, .int x1), (2, .int x2), (3, .int x3), (4, .int x4), (5, .int x5)]) K d12_apart_192 (by decide) rfl ?_
  refine j_sub [2, 3, 4, 5, 6, 7, 0] rfl ?_
  exact t12_apart_194 K hr hlk N ρ k57 hk57 k66 hk66 x1 x2 x3 x4 x5 r22 μ h
def b12_apart_84 (N : Nat) (k57 : Int32 → Int32 → Int32 → Int32 → Mz → Option (Int32 × Mz)) (k66 : Int32 → Int32 → Int32 → Int32 → Int32 → Mz → Option (Int32 × Mz)) (x1 : Int32) (x2 : Int32) (x3 : Int32) (x4 : Int32) (x5 : Int32) (t0 : Int32) (μ : Mz) : Option (Int32 × Mz) := if x4 ≤ 0 then b12_apart_194 N k57 k66 x1 x2 x3 x4 x5 t0 μ else if x5 ≤ 0 then b12_apart_194 N k57 k66 x1 x2 x3 x4 x5 t0 μ else lt (((11 * (x4 - 1)) + x5) - 1) (fun v10 => ck (inb v10 121) (lt (((13 + x1) + x4) - 1) (fun v12 => ck (inb v12 129) (lt (((13 + x2) + x5) - 1) (fun v14 => ck (inb v14 129) (if (ga 7 μ v12.toNatClampNeg) = (ga 7 μ v14.toNatClampNeg) then b12_apart_149 N k57 k66 x1 x2 x3 x4 x5 0 (ga 12 μ v10.toNatClampNeg) μ else b12_apart_149 N k57 k66 x1 x2 x3 x4 x5 1 (ga 12 μ v10.toNatClampNeg) μ))))))
set_option maxHeartbeats 4000000 in
set_option maxRecDepth 100000 in
theorem t12_apart_84 {p : Program} {l : Launch} {e : Env} {s : State} {m : MethodId} {args : Array Value} {below : List Frame} {meth : Method} {c : Code} {D : va_G} {θ : Th} {A : Nat → Prop} (K : KM p s m args c c12_apart 8 y12_apart (some .int) D θ A) (hr : meth.sig.returnType = (some .int)) (hlk : meth.locks = false) (N : Nat) (ρ : Int32 × Mz) (k57 : Int32 → Int32 → Int32 → Int32 → Mz → Option (Int32 × Mz)) (hk57 : ∀ (x1 : Int32) (x2 : Int32) (x3 : Int32) (x4 : Int32) (μ : Mz), k57 x1 x2 x3 x4 μ = some ρ → JM p l e s m args below meth c D θ A 2 8 (QMi below args s D θ A ρ) μ [(0, .ref θ.1), (1, .int x1), (2, .int x2), (3, .int x3), (4, .int x4)] [] 57) (k66 : Int32 → Int32 → Int32 → Int32 → Int32 → Mz → Option (Int32 × Mz)) (hk66 : ∀ (x1 : Int32) (x2 : Int32) (x3 : Int32) (x4 : Int32) (x5 : Int32) (μ : Mz), k66 x1 x2 x3 x4 x5 μ = some ρ → JM p l e s m args below meth c D θ A 2 8 (QMi below args s D θ A ρ) μ [(0, .ref θ.1), (1, .int x1), (2, .int x2), (3, .int x3), (4, .int x4), (5, .int x5)] [] 66) (x1 : Int32) (x2 : Int32) (x3 : Int32) (x4 : Int32) (x5 : Int32) (t0 : Int32) (μ : Mz) (h : b12_apart_84 N k57 k66 x1 x2 x3 x4 x5 t0 μ = some ρ) : JM p l e s m args below meth c D θ A 2 8 (QMi below args s D θ A ρ) μ [(0, .ref θ.1), (1, .int x1), (2, .int x2), (3, .int x3), (4, .int x4), (5, .int x5)] [.int t0] 84 := by
  unfold b12_apart_84 at h
  refine j_istore (lv' := [(6, .int t0), (0, .ref θ.1), (1, .int x1), (2, .int x2), (3, .int x3), (4, .int x4), (5, .int x5)]) K d12_apart_84 (by decide) rfl ?_
  refine j_iload K 5 d12_apart_86 rfl ?_
  refine j_if_le (tgt := 194) K d12_apart_88 (by decide) (fun q => ?_) (fun q => ?_)
  · have h := if_t h q
    refine j_sub [1, 2, 3, 4, 5, 6, 0] rfl ?_
    exact t12_apart_194 K hr hlk N ρ k57 hk57 k66 hk66 x1 x2 x3 x4 x5 t0 μ h
  · have h := if_f h q
    refine j_iload K 6 d12_apart_91 rfl ?_
    refine j_if_le (tgt := 194) K d12_apart_93 (by decide) (fun q => ?_) (fun q => ?_)
    · have h := if_t h q
      refine j_sub [1, 2, 3, 4, 5, 6, 0] rfl ?_
      exact t12_apart_194 K hr hlk N ρ k57 hk57 k66 hk66 x1 x2 x3 x4 x5 t0 μ h
    · have h := if_f h q
      refine j_aload_n K 1 d12_apart_96 rfl rfl ?_
      refine mg_farOf K d12_apart_97 ?_
      refine j_bipush (v := 11) K d12_apart_100 (by decide) ?_
      refine j_iload K 5 d12_apart_102 rfl ?_
      refine j_iconst (v := 1) K d12_apart_104 (by decide) ?_
      refine j_isub K d12_apart_105 ?_
      refine j_imul K d12_apart_106 ?_
      refine j_iload K 6 d12_apart_107 rfl ?_
      refine j_iadd K d12_apart_109 ?_
      refine j_iconst (v := 1) K d12_apart_110 (by decide) ?_
      refine j_isub K d12_apart_111 ?_
      obtain ⟨v10, e10, h⟩ := lt_e h
      refine j_eqi e10 ?_
      obtain ⟨q11, h⟩ := ck_e h
      refine ml_farOf K (inb_e q11) d12_apart_112 ?_
      refine j_aload_n K 1 d12_apart_113 rfl rfl ?_
      refine mg_said K d12_apart_114 ?_
      refine j_bipush (v := 13) K d12_apart_117 (by decide) ?_
      refine j_iload_n K 2 d12_apart_119 rfl rfl ?_
      refine j_iadd K d12_apart_120 ?_
      refine j_iload K 5 d12_apart_121 rfl ?_
      refine j_iadd K d12_apart_123 ?_
      refine j_iconst (v := 1) K d12_apart_124 (by decide) ?_
      refine j_isub K d12_apart_125 ?_
      obtain ⟨v12, e12, h⟩ := lt_e h
      refine j_eqi e12 ?_
      obtain ⟨q13, h⟩ := ck_e h
      refine ml_said K (inb_e q13) d12_apart_126 ?_
      refine j_aload_n K 1 d12_apart_127 rfl rfl ?_
      refine mg_said K d12_apart_128 ?_
      refine j_bipush (v := 13) K d12_apart_131 (by decide) ?_
      refine j_iload_n K 3 d12_apart_133 rfl rfl ?_
      refine j_iadd K d12_apart_134 ?_
      refine j_iload K 6 d12_apart_135 rfl ?_
      refine j_iadd K d12_apart_137 ?_
      refine j_iconst (v := 1) K d12_apart_138 (by decide) ?_
      refine j_isub K d12_apart_139 ?_
      obtain ⟨v14, e14, h⟩ := lt_e h
      refine j_eqi e14 ?_
      obtain ⟨q15, h⟩ := ck_e h
      refine ml_said K (inb_e q15) d12_apart_140 ?_
      refine j_icmp_ne (tgt := 148) K d12_apart_141 (by decide) (fun q => ?_) (fun q => ?_)
      · have h := if_f h q
        refine j_iconst (v := 1) K d12_apart_148 (by decide) ?_
        refine j_sub [1, 2, 3, 4, 5, 6] rfl ?_
        exact t12_apart_149 K hr hlk N ρ k57 hk57 k66 hk66 x1 x2 x3 x4 x5 1 (ga 12 μ v10.toNatClampNeg) μ h
      · have h := if_t h q
        refine j_iconst (v := 0) K d12_apart_144 (by decide) ?_
        refine j_goto (tgt := 149) K d12_apart_145 (by decide) ?_
        refine j_sub [1, 2, 3, 4, 5, 6] rfl ?_
        exact t12_apart_149 K hr hlk N ρ k57 hk57 k66 hk66 x1 x2 x3 x4 x5 0 (ga 12 μ v10.toNatClampNeg) μ h
def b12_apart_66 (N : Nat) (k57 : Int32 → Int32 → Int32 → Int32 → Mz → Option (Int32 × Mz)) : Nat → Int32 → Int32 → Int32 → Int32 → Int32 → Mz → Option (Int32 × Mz)
  | 0, _, _, _, _, _, _ => none
  | n + 1, x1, x2, x3, x4, x5, μ => if x3 < x5 then lt (x4 + 1) (fun v6 => k57 x1 x2 x3 v6 μ) else if x4 = 0 then b12_apart_84 N k57 (b12_apart_66 N k57 n) x1 x2 x3 x4 x5 x5 μ else b12_apart_84 N k57 (b12_apart_66 N k57 n) x1 x2 x3 x4 x5 x4 μ
set_option maxHeartbeats 4000000 in
set_option maxRecDepth 100000 in
theorem t12_apart_66 {p : Program} {l : Launch} {e : Env} {s : State} {m : MethodId} {args : Array Value} {below : List Frame} {meth : Method} {c : Code} {D : va_G} {θ : Th} {A : Nat → Prop} (K : KM p s m args c c12_apart 8 y12_apart (some .int) D θ A) (hr : meth.sig.returnType = (some .int)) (hlk : meth.locks = false) (N : Nat) (ρ : Int32 × Mz) (k57 : Int32 → Int32 → Int32 → Int32 → Mz → Option (Int32 × Mz)) (hk57 : ∀ (x1 : Int32) (x2 : Int32) (x3 : Int32) (x4 : Int32) (μ : Mz), k57 x1 x2 x3 x4 μ = some ρ → JM p l e s m args below meth c D θ A 2 8 (QMi below args s D θ A ρ) μ [(0, .ref θ.1), (1, .int x1), (2, .int x2), (3, .int x3), (4, .int x4)] [] 57) : ∀ (n : Nat) (x1 : Int32) (x2 : Int32) (x3 : Int32) (x4 : Int32) (x5 : Int32) (μ : Mz), b12_apart_66 N k57 n x1 x2 x3 x4 x5 μ = some ρ → JM p l e s m args below meth c D θ A 2 8 (QMi below args s D θ A ρ) μ [(0, .ref θ.1), (1, .int x1), (2, .int x2), (3, .int x3), (4, .int x4), (5, .int x5)] [] 66 := by
  intro n
  induction n with
  | zero =>
    intro x1 x2 x3 x4 x5 μ h
    exact absurd h (by simp [b12_apart_66])
  | succ n ih =>
    intro x1 x2 x3 x4 x5 μ h
    rw [b12_apart_66] at h
    refine j_iload K 5 d12_apart_66 rfl ?_
    refine j_iload_n K 3 d12_apart_68 rfl rfl ?_
    refine j_icmp_gt (tgt := 215) K d12_apart_69 (by decide) (fun q => ?_) (fun q => ?_)
    · have h := if_t h q
      obtain ⟨v6, e6, h⟩ := lt_e h
      refine j_iinc (k := 4) (v := v6) (lv' := [(4, .int v6), (0, .ref θ.1), (1, .int x1), (2, .int x2), (3, .int x3), (5, .int x5)]) K d12_apart_215 rfl (by rw [e6]; rfl) (by decide) rfl ?_
      refine j_goto (tgt := 57) K d12_apart_218 (by decide) ?_
      refine j_sub [1, 2, 3, 4, 0] rfl ?_
      exact hk57 x1 x2 x3 v6 μ h
    · have h := if_f h q
      refine j_iload K 4 d12_apart_72 rfl ?_
      refine j_if_ne (tgt := 82) K d12_apart_74 (by decide) (fun q => ?_) (fun q => ?_)
      · have h := if_f h q
        refine j_iload K 4 d12_apart_82 rfl ?_
        exact t12_apart_84 K hr hlk N ρ k57 hk57 (b12_apart_66 N k57 n) ih x1 x2 x3 x4 x5 x4 μ h
      · have h := if_t h q
        refine j_iload K 5 d12_apart_77 rfl ?_
        refine j_goto (tgt := 84) K d12_apart_79 (by decide) ?_
        exact t12_apart_84 K hr hlk N ρ k57 hk57 (b12_apart_66 N k57 n) ih x1 x2 x3 x4 x5 x5 μ h
def b12_apart_57 (N : Nat) : Nat → Int32 → Int32 → Int32 → Int32 → Mz → Option (Int32 × Mz)
  | 0, _, _, _, _, _ => none
  | n + 1, x1, x2, x3, x4, μ => if x3 < x4 then lt (12 * x3) (fun v4 => ck (inb v4 121) (some (ga 12 μ v4.toNatClampNeg, μ))) else b12_apart_66 N (b12_apart_57 N n) N x1 x2 x3 x4 0 μ
set_option maxHeartbeats 4000000 in
set_option maxRecDepth 100000 in
theorem t12_apart_57 {p : Program} {l : Launch} {e : Env} {s : State} {m : MethodId} {args : Array Value} {below : List Frame} {meth : Method} {c : Code} {D : va_G} {θ : Th} {A : Nat → Prop} (K : KM p s m args c c12_apart 8 y12_apart (some .int) D θ A) (hr : meth.sig.returnType = (some .int)) (hlk : meth.locks = false) (N : Nat) (ρ : Int32 × Mz) : ∀ (n : Nat) (x1 : Int32) (x2 : Int32) (x3 : Int32) (x4 : Int32) (μ : Mz), b12_apart_57 N n x1 x2 x3 x4 μ = some ρ → JM p l e s m args below meth c D θ A 2 8 (QMi below args s D θ A ρ) μ [(0, .ref θ.1), (1, .int x1), (2, .int x2), (3, .int x3), (4, .int x4)] [] 57 := by
  intro n
  induction n with
  | zero =>
    intro x1 x2 x3 x4 μ h
    exact absurd h (by simp [b12_apart_57])
  | succ n ih =>
    intro x1 x2 x3 x4 μ h
    rw [b12_apart_57] at h
    refine j_iload K 4 d12_apart_57 rfl ?_
    refine j_iload_n K 3 d12_apart_59 rfl rfl ?_
    refine j_icmp_gt (tgt := 221) K d12_apart_60 (by decide) (fun q => ?_) (fun q => ?_)
    · have h := if_t h q
      refine j_aload_n K 0 d12_apart_221 rfl rfl ?_
      refine mg_farOf K d12_apart_222 ?_
      refine j_bipush (v := 12) K d12_apart_225 (by decide) ?_
      refine j_iload_n K 3 d12_apart_227 rfl rfl ?_
      refine j_imul K d12_apart_228 ?_
      obtain ⟨v4, e4, h⟩ := lt_e h
      refine j_eqi e4 ?_
      obtain ⟨q5, h⟩ := ck_e h
      refine ml_farOf K (inb_e q5) d12_apart_229 ?_
      exact mret_i K h hr hlk d12_apart_230
    · have h := if_f h q
      refine j_iconst (v := 0) K d12_apart_63 (by decide) ?_
      refine j_istore (lv' := [(5, .int 0), (0, .ref θ.1), (1, .int x1), (2, .int x2), (3, .int x3), (4, .int x4)]) K d12_apart_64 (by decide) rfl ?_
      refine j_sub [1, 2, 3, 4, 5, 0] rfl ?_
      exact t12_apart_66 K hr hlk N ρ (b12_apart_57 N n) ih N x1 x2 x3 x4 0 μ h
def p12_apart (N : Nat) (a1 : Int32) (a2 : Int32) (a3 : Int32) (μ : Mz) : Option (Int32 × Mz) := bd (p12_isInBook N a1 μ) (fun r1 μ1 => if r1 = 0 then some ((-1), μ1) else bd (p12_isInBook N a2 μ1) (fun r2 μ2 => if r2 = 0 then some ((-1), μ2) else bo (p12_in N (a3.toInt64) 1 10) (fun r3 => if r3 = 0 then some ((-1), μ2) else if (ga 7 μ2 (3 : Int32).toNatClampNeg) < (a1 + a3) then some ((-1), μ2) else if (a2 + a3) ≤ (ga 7 μ2 (3 : Int32).toNatClampNeg) then b12_apart_57 N N a1 a2 a3 0 μ2 else some ((-1), μ2))))
set_option maxHeartbeats 4000000 in
set_option maxRecDepth 100000 in
theorem c12_apart_ok (l : Launch) (D : va_G) (θ : Th) (N : Nat) (a1 : Int32) (a2 : Int32) (a3 : Int32) (μ : Mz) (ρ : Int32 × Mz) (h : p12_apart N a1 a2 a3 μ = some ρ) : CMi l D θ y12_apart c12_apart 8 (some .int) 2 [.int a1, .int a2, .int a3] μ ρ := by
  intro sz
  refine j_met l [.ref θ.1, .int a1, .int a2, .int a3] (by decide +kernel) (Nat.le_of_ble_eq_true rfl) ?_
  intro p e s m args below meth c K hr hlk hnm hs
  generalize va_A (wM θ μ) sz = A at K ⊢
  have K : KM p s m args c c12_apart 8 y12_apart (some .int) D θ A := K
  show JM p l e s m args below meth c D θ A 2 8 (QMi below args s D θ A ρ) μ [(0, .ref θ.1), (1, .int a1), (2, .int a2), (3, .int a3)] [] 0
  unfold p12_apart at h
  refine j_aload_n K 0 d12_apart_0 rfl rfl ?_
  refine j_iload_n K 1 d12_apart_1 rfl rfl ?_
  obtain ⟨r1, μ1, e1, h⟩ := bd_e h
  refine mcall_i K (c12_isInBook_ok l D θ N a1 μ _ e1) mG_isInBook mh_isInBook (by decide) (by decide) rfl (st := []) (Nat.le_of_ble_eq_true rfl) rfl d12_apart_2 ?_
  refine j_if_eq (tgt := 52) K d12_apart_5 (by decide) (fun q => ?_) (fun q => ?_)
  · have h := if_t h q
    refine j_iconst (v := (-1)) K d12_apart_52 (by decide) ?_
    exact mret_i K h hr hlk d12_apart_53
  · have h := if_f h q
    refine j_aload_n K 0 d12_apart_8 rfl rfl ?_
    refine j_iload_n K 2 d12_apart_9 rfl rfl ?_
    obtain ⟨r2, μ2, e2, h⟩ := bd_e h
    refine mcall_i K (c12_isInBook_ok l D θ N a2 μ1 _ e2) mG_isInBook mh_isInBook (by decide) (by decide) rfl (st := []) (Nat.le_of_ble_eq_true rfl) rfl d12_apart_10 ?_
    refine j_if_eq (tgt := 52) K d12_apart_13 (by decide) (fun q => ?_) (fun q => ?_)
    · have h := if_t h q
      refine j_iconst (v := (-1)) K d12_apart_52 (by decide) ?_
      exact mret_i K h hr hlk d12_apart_53
    · have h := if_f h q
      refine j_iload_n K 3 d12_apart_16 rfl rfl ?_
      refine j_i2l K d12_apart_17 ?_
      refine j_lconst (v := 1) K d12_apart_18 (by decide) ?_
      refine j_ldc2 (v := 10) K (List.mem_cons_of_mem _ mk12_404) d12_apart_19 ?_
      obtain ⟨r3, e3, h⟩ := bo_e h
      refine mcalls_i K (c12_in_ok l D θ N (a3.toInt64) 1 10 _ e3) mG_in mh_in (by decide) (by decide) rfl (st := []) (Nat.le_of_ble_eq_true rfl) rfl d12_apart_22 ?_
      refine j_if_eq (tgt := 52) K d12_apart_25 (by decide) (fun q => ?_) (fun q => ?_)
      · have h := if_t h q
        refine j_iconst (v := (-1)) K d12_apart_52 (by decide) ?_
        exact mret_i K h hr hlk d12_apart_53
      · have h := if_f h q
        refine j_iload_n K 1 d12_apart_28 rfl rfl ?_
        refine j_iload_n K 3 d12_apart_29 rfl rfl ?_
        refine j_iadd K d12_apart_30 ?_
        refine j_aload_n K 0 d12_apart_31 rfl rfl ?_
        refine mg_said K d12_apart_32 ?_
        refine j_iconst (v := 3) K d12_apart_35 (by decide) ?_
        refine ml_said K (inb_e (by decide)) d12_apart_36 ?_
        refine j_icmp_gt (tgt := 52) K d12_apart_37 (by decide) (fun q => ?_) (fun q => ?_)
        · have h := if_t h q
          refine j_iconst (v := (-1)) K d12_apart_52 (by decide) ?_
          exact mret_i K h hr hlk d12_apart_53
        · have h := if_f h q
          refine j_iload_n K 2 d12_apart_40 rfl rfl ?_
          refine j_iload_n K 3 d12_apart_41 rfl rfl ?_
          refine j_iadd K d12_apart_42 ?_
          refine j_aload_n K 0 d12_apart_43 rfl rfl ?_
          refine mg_said K d12_apart_44 ?_
          refine j_iconst (v := 3) K d12_apart_47 (by decide) ?_
          refine ml_said K (inb_e (by decide)) d12_apart_48 ?_
          refine j_icmp_le (tgt := 54) K d12_apart_49 (by decide) (fun q => ?_) (fun q => ?_)
          · have h := if_t h q
            refine j_iconst (v := 0) K d12_apart_54 (by decide) ?_
            refine j_istore (lv' := [(4, .int 0), (0, .ref θ.1), (1, .int a1), (2, .int a2), (3, .int a3)]) K d12_apart_55 (by decide) rfl ?_
            refine j_sub [1, 2, 3, 4, 0] rfl ?_
            exact t12_apart_57 K hr hlk N ρ N a1 a2 a3 0 μ2 h
          · have h := if_f h q
            refine j_iconst (v := (-1)) K d12_apart_52 (by decide) ?_
            exact mret_i K h hr hlk d12_apart_53
def b12_pence_85 (N : Nat) : Nat → Int32 → Int32 → Int32 → Int32 → Int32 → Int32 → Int32 → Mz → Option (Int32 × Mz)
  | 0, _, _, _, _, _, _, _, _ => none
  | n + 1, x1, x2, x3, x4, x5, x6, x7, μ => if (ga 7 μ (3 : Int32).toNatClampNeg) ≤ x7 then ck (nz x3) (if x5 ≤ x6 then some ((x4 / x3) + 0, μ) else some ((x4 / x3) + 1, μ)) else lt (23 + x7) (fun v7 => ck (inb v7 129) (lt (x1 * (ga 7 μ v7.toNatClampNeg)) (fun v9 => ck (nz x3) (lt (x5 - (v9 / x3)) (fun v11 => ck (nz x3) (ck (nz x3) (if (x4 - x4 / x3 * x3) < (v9 - v9 / x3 * x3) then lt (x6 + 1) (fun v14 => lt (x7 + 1) (fun v15 => b12_pence_85 N n x1 x2 x3 x4 v11 v14 v15 μ)) else ck (nz x3) (ck (nz x3) (if (v9 - v9 / x3 * x3) = (x4 - x4 / x3 * x3) then if x2 ≤ x7 then lt (x6 + 0) (fun v20 => lt (x7 + 1) (fun v21 => b12_pence_85 N n x1 x2 x3 x4 v11 v20 v21 μ)) else lt (x6 + 1) (fun v22 => lt (x7 + 1) (fun v23 => b12_pence_85 N n x1 x2 x3 x4 v11 v22 v23 μ)) else lt (x6 + 0) (fun v18 => lt (x7 + 1) (fun v19 => b12_pence_85 N n x1 x2 x3 x4 v11 v18 v19 μ)))))))))))
set_option maxHeartbeats 4000000 in
set_option maxRecDepth 100000 in
theorem t12_pence_85 {p : Program} {l : Launch} {e : Env} {s : State} {m : MethodId} {args : Array Value} {below : List Frame} {meth : Method} {c : Code} {D : va_G} {θ : Th} {A : Nat → Prop} (K : KM p s m args c c12_pence 9 y12_pence (some .int) D θ A) (hr : meth.sig.returnType = (some .int)) (hlk : meth.locks = false) (N : Nat) (ρ : Int32 × Mz) : ∀ (n : Nat) (x1 : Int32) (x2 : Int32) (x3 : Int32) (x4 : Int32) (x5 : Int32) (x6 : Int32) (x7 : Int32) (μ : Mz), b12_pence_85 N n x1 x2 x3 x4 x5 x6 x7 μ = some ρ → JM p l e s m args below meth c D θ A 2 9 (QMi below args s D θ A ρ) μ [(0, .ref θ.1), (1, .int x1), (2, .int x2), (3, .int x3), (4, .int x4), (5, .int x5), (6, .int x6), (7, .int x7)] [] 85 := by
  intro n
  induction n with
  | zero =>
    intro x1 x2 x3 x4 x5 x6 x7 μ h
    exact absurd h (by simp [b12_pence_85])
  | succ n ih =>
    intro x1 x2 x3 x4 x5 x6 x7 μ h
    rw [b12_pence_85] at h
    refine j_iload K 7 d12_pence_85 rfl ?_
    refine j_aload_n K 0 d12_pence_87 rfl rfl ?_
    refine mg_said K d12_pence_88 ?_
    refine j_iconst (v := 3) K d12_pence_91 (by decide) ?_
    refine ml_said K (inb_e (by decide)) d12_pence_92 ?_
    refine j_icmp_ge (tgt := 163) K d12_pence_93 (by decide) (fun q => ?_) (fun q => ?_)
    · have h := if_t h q
      refine j_iload K 4 d12_pence_163 rfl ?_
      refine j_iload_n K 3 d12_pence_165 rfl rfl ?_
      obtain ⟨q6, h⟩ := ck_e h
      refine j_idiv K d12_pence_166 (nz_e q6) ?_
      refine j_iload K 6 d12_pence_167 rfl ?_
      refine j_iload K 5 d12_pence_169 rfl ?_
      refine j_icmp_ge (tgt := 178) K d12_pence_171 (by decide) (fun q => ?_) (fun q => ?_)
      · have h := if_t h q
        refine j_iconst (v := 0) K d12_pence_178 (by decide) ?_
        refine j_iadd K d12_pence_179 ?_
        exact mret_i K h hr hlk d12_pence_180
      · have h := if_f h q
        refine j_iconst (v := 1) K d12_pence_174 (by decide) ?_
        refine j_goto (tgt := 179) K d12_pence_175 (by decide) ?_
        refine j_iadd K d12_pence_179 ?_
        exact mret_i K h hr hlk d12_pence_180
    · have h := if_f h q
      refine j_iload_n K 1 d12_pence_96 rfl rfl ?_
      refine j_aload_n K 0 d12_pence_97 rfl rfl ?_
      refine mg_said K d12_pence_98 ?_
      refine j_bipush (v := 23) K d12_pence_101 (by decide) ?_
      refine j_iload K 7 d12_pence_103 rfl ?_
      refine j_iadd K d12_pence_105 ?_
      obtain ⟨v7, e7, h⟩ := lt_e h
      refine j_eqi e7 ?_
      obtain ⟨q8, h⟩ := ck_e h
      refine ml_said K (inb_e q8) d12_pence_106 ?_
      refine j_imul K d12_pence_107 ?_
      obtain ⟨v9, e9, h⟩ := lt_e h
      refine j_eqi e9 ?_
      refine j_istore (lv' := [(8, .int v9), (0, .ref θ.1), (1, .int x1), (2, .int x2), (3, .int x3), (4, .int x4), (5, .int x5), (6, .int x6), (7, .int x7)]) K d12_pence_108 (by decide) rfl ?_
      refine j_iload K 6 d12_pence_110 rfl ?_
      refine j_iload K 0 d12_pence_112 rfl ?_
      refine j_iload_n K 4 d12_pence_114 rfl rfl ?_
      obtain ⟨q10, h⟩ := ck_e h
      refine j_idiv K d12_pence_115 (nz_e q10) ?_
      refine j_isub K d12_pence_116 ?_
      obtain ⟨v11, e11, h⟩ := lt_e h
      refine j_eqi e11 ?_
      refine j_istore (lv' := [(5, .int v11), (8, .int v9), (0, .ref θ.1), (1, .int x1), (2, .int x2), (3, .int x3), (4, .int x4), (6, .int x6), (7, .int x7)]) K d12_pence_117 (by decide) rfl ?_
      refine j_iload K 7 d12_pence_119 rfl ?_
      refine j_iload K 1 d12_pence_121 rfl ?_
      refine j_iload_n K 5 d12_pence_123 rfl rfl ?_
      obtain ⟨q12, h⟩ := ck_e h
      refine j_irem K d12_pence_124 (nz_e q12) ?_
      refine j_iload K 6 d12_pence_125 rfl ?_
      refine j_iload_n K 5 d12_pence_127 rfl rfl ?_
      obtain ⟨q13, h⟩ := ck_e h
      refine j_irem K d12_pence_128 (nz_e q13) ?_
      refine j_icmp_gt (tgt := 149) K d12_pence_129 (by decide) (fun q => ?_) (fun q => ?_)
      · have h := if_t h q
        refine j_iconst (v := 1) K d12_pence_149 (by decide) ?_
        refine j_goto (tgt := 154) K d12_pence_150 (by decide) ?_
        refine j_iadd K d12_pence_154 ?_
        obtain ⟨v14, e14, h⟩ := lt_e h
        refine j_eqi e14 ?_
        refine j_istore (lv' := [(6, .int v14), (5, .int v11), (8, .int v9), (0, .ref θ.1), (1, .int x1), (2, .int x2), (3, .int x3), (4, .int x4), (7, .int x7)]) K d12_pence_155 (by decide) rfl ?_
        obtain ⟨v15, e15, h⟩ := lt_e h
        refine j_iinc (k := 8) (v := v15) (lv' := [(7, .int v15), (6, .int v14), (5, .int v11), (8, .int v9), (0, .ref θ.1), (1, .int x1), (2, .int x2), (3, .int x3), (4, .int x4)]) K d12_pence_157 rfl (by rw [e15]; rfl) (by decide) rfl ?_
        refine j_goto (tgt := 85) K d12_pence_160 (by decide) ?_
        refine j_sub [4, 5, 6, 7, 8, 2, 1, 0] rfl ?_
        exact ih x1 x2 x3 x4 v11 v14 v15 μ h
      · have h := if_f h q
        refine j_iload K 1 d12_pence_132 rfl ?_
        refine j_iload_n K 5 d12_pence_134 rfl rfl ?_
        obtain ⟨q16, h⟩ := ck_e h
        refine j_irem K d12_pence_135 (nz_e q16) ?_
        refine j_iload K 6 d12_pence_136 rfl ?_
        refine j_iload_n K 5 d12_pence_138 rfl rfl ?_
        obtain ⟨q17, h⟩ := ck_e h
        refine j_irem K d12_pence_139 (nz_e q17) ?_
        refine j_icmp_ne (tgt := 153) K d12_pence_140 (by decide) (fun q => ?_) (fun q => ?_)
        · have h := if_f h q
          refine j_iconst (v := 0) K d12_pence_153 (by decide) ?_
          refine j_iadd K d12_pence_154 ?_
          obtain ⟨v18, e18, h⟩ := lt_e h
          refine j_eqi e18 ?_
          refine j_istore (lv' := [(6, .int v18), (5, .int v11), (8, .int v9), (0, .ref θ.1), (1, .int x1), (2, .int x2), (3, .int x3), (4, .int x4), (7, .int x7)]) K d12_pence_155 (by decide) rfl ?_
          obtain ⟨v19, e19, h⟩ := lt_e h
          refine j_iinc (k := 8) (v := v19) (lv' := [(7, .int v19), (6, .int v18), (5, .int v11), (8, .int v9), (0, .ref θ.1), (1, .int x1), (2, .int x2), (3, .int x3), (4, .int x4)]) K d12_pence_157 rfl (by rw [e19]; rfl) (by decide) rfl ?_
          refine j_goto (tgt := 85) K d12_pence_160 (by decide) ?_
          refine j_sub [4, 5, 6, 7, 8, 2, 1, 0] rfl ?_
          exact ih x1 x2 x3 x4 v11 v18 v19 μ h
        · have h := if_t h q
          refine j_iload K 8 d12_pence_143 rfl ?_
          refine j_iload_n K 4 d12_pence_145 rfl rfl ?_
          refine j_icmp_ge (tgt := 153) K d12_pence_146 (by decide) (fun q => ?_) (fun q => ?_)
          · have h := if_t h q
            refine j_iconst (v := 0) K d12_pence_153 (by decide) ?_
            refine j_iadd K d12_pence_154 ?_
            obtain ⟨v20, e20, h⟩ := lt_e h
            refine j_eqi e20 ?_
            refine j_istore (lv' := [(6, .int v20), (5, .int v11), (8, .int v9), (0, .ref θ.1), (1, .int x1), (2, .int x2), (3, .int x3), (4, .int x4), (7, .int x7)]) K d12_pence_155 (by decide) rfl ?_
            obtain ⟨v21, e21, h⟩ := lt_e h
            refine j_iinc (k := 8) (v := v21) (lv' := [(7, .int v21), (6, .int v20), (5, .int v11), (8, .int v9), (0, .ref θ.1), (1, .int x1), (2, .int x2), (3, .int x3), (4, .int x4)]) K d12_pence_157 rfl (by rw [e21]; rfl) (by decide) rfl ?_
            refine j_goto (tgt := 85) K d12_pence_160 (by decide) ?_
            refine j_sub [4, 5, 6, 7, 8, 2, 1, 0] rfl ?_
            exact ih x1 x2 x3 x4 v11 v20 v21 μ h
          · have h := if_f h q
            refine j_iconst (v := 1) K d12_pence_149 (by decide) ?_
            refine j_goto (tgt := 154) K d12_pence_150 (by decide) ?_
            refine j_iadd K d12_pence_154 ?_
            obtain ⟨v22, e22, h⟩ := lt_e h
            refine j_eqi e22 ?_
            refine j_istore (lv' := [(6, .int v22), (5, .int v11), (8, .int v9), (0, .ref θ.1), (1, .int x1), (2, .int x2), (3, .int x3), (4, .int x4), (7, .int x7)]) K d12_pence_155 (by decide) rfl ?_
            obtain ⟨v23, e23, h⟩ := lt_e h
            refine j_iinc (k := 8) (v := v23) (lv' := [(7, .int v23), (6, .int v22), (5, .int v11), (8, .int v9), (0, .ref θ.1), (1, .int x1), (2, .int x2), (3, .int x3), (4, .int x4)]) K d12_pence_157 rfl (by rw [e23]; rfl) (by decide) rfl ?_
            refine j_goto (tgt := 85) K d12_pence_160 (by decide) ?_
            refine j_sub [4, 5, 6, 7, 8, 2, 1, 0] rfl ?_
            exact ih x1 x2 x3 x4 v11 v22 v23 μ h
def b12_pence_27 (N : Nat) : Nat → Int32 → Int32 → Int32 → Int32 → Mz → Option (Int32 × Mz)
  | 0, _, _, _, _, _ => none
  | n + 1, x1, x2, x3, x4, μ => if (ga 7 μ (3 : Int32).toNatClampNeg) ≤ x4 then if x3 = 0 then some (0, μ) else lt (23 + x2) (fun v3 => ck (inb v3 129) (lt (x1 * (ga 7 μ v3.toNatClampNeg)) (fun v5 => b12_pence_85 N N x1 x2 x3 v5 x1 0 0 μ))) else lt (23 + x4) (fun v24 => ck (inb v24 129) (lt (x3 + (ga 7 μ v24.toNatClampNeg)) (fun v26 => lt (x4 + 1) (fun v27 => b12_pence_27 N n x1 x2 v26 v27 μ))))
set_option maxHeartbeats 4000000 in
set_option maxRecDepth 100000 in
theorem t12_pence_27 {p : Program} {l : Launch} {e : Env} {s : State} {m : MethodId} {args : Array Value} {below : List Frame} {meth : Method} {c : Code} {D : va_G} {θ : Th} {A : Nat → Prop} (K : KM p s m args c c12_pence 9 y12_pence (some .int) D θ A) (hr : meth.sig.returnType = (some .int)) (hlk : meth.locks = false) (N : Nat) (ρ : Int32 × Mz) : ∀ (n : Nat) (x1 : Int32) (x2 : Int32) (x3 : Int32) (x4 : Int32) (μ : Mz), b12_pence_27 N n x1 x2 x3 x4 μ = some ρ → JM p l e s m args below meth c D θ A 2 9 (QMi below args s D θ A ρ) μ [(0, .ref θ.1), (1, .int x1), (2, .int x2), (3, .int x3), (4, .int x4)] [] 27 := by
  intro n
  induction n with
  | zero =>
    intro x1 x2 x3 x4 μ h
    exact absurd h (by simp [b12_pence_27])
  | succ n ih =>
    intro x1 x2 x3 x4 μ h
    rw [b12_pence_27] at h
    refine j_iload K 4 d12_pence_27 rfl ?_
    refine j_aload_n K 0 d12_pence_29 rfl rfl ?_
    refine mg_said K d12_pence_30 ?_
    refine j_iconst (v := 3) K d12_pence_33 (by decide) ?_
    refine ml_said K (inb_e (by decide)) d12_pence_34 ?_
    refine j_icmp_ge (tgt := 57) K d12_pence_35 (by decide) (fun q => ?_) (fun q => ?_)
    · have h := if_t h q
      refine j_iload_n K 3 d12_pence_57 rfl rfl ?_
      refine j_if_ne (tgt := 63) K d12_pence_58 (by decide) (fun q => ?_) (fun q => ?_)
      · have h := if_f h q
        refine j_iload_n K 1 d12_pence_63 rfl rfl ?_
        refine j_aload_n K 0 d12_pence_64 rfl rfl ?_
        refine mg_said K d12_pence_65 ?_
        refine j_bipush (v := 23) K d12_pence_68 (by decide) ?_
        refine j_iload_n K 2 d12_pence_70 rfl rfl ?_
        refine j_iadd K d12_pence_71 ?_
        obtain ⟨v3, e3, h⟩ := lt_e h
        refine j_eqi e3 ?_
        obtain ⟨q4, h⟩ := ck_e h
        refine ml_said K (inb_e q4) d12_pence_72 ?_
        refine j_imul K d12_pence_73 ?_
        obtain ⟨v5, e5, h⟩ := lt_e h
        refine j_eqi e5 ?_
        refine j_istore (lv' := [(4, .int v5), (0, .ref θ.1), (1, .int x1), (2, .int x2), (3, .int x3)]) K d12_pence_74 (by decide) rfl ?_
        refine j_iload_n K 2 d12_pence_76 rfl rfl ?_
        refine j_istore (lv' := [(5, .int x1), (4, .int v5), (0, .ref θ.1), (1, .int x1), (2, .int x2), (3, .int x3)]) K d12_pence_77 (by decide) rfl ?_
        refine j_iconst (v := 0) K d12_pence_79 (by decide) ?_
        refine j_istore (lv' := [(6, .int 0), (5, .int x1), (4, .int v5), (0, .ref θ.1), (1, .int x1), (2, .int x2), (3, .int x3)]) K d12_pence_80 (by decide) rfl ?_
        refine j_iconst (v := 0) K d12_pence_82 (by decide) ?_
        refine j_istore (lv' := [(7, .int 0), (6, .int 0), (5, .int x1), (4, .int v5), (0, .ref θ.1), (1, .int x1), (2, .int x2), (3, .int x3)]) K d12_pence_83 (by decide) rfl ?_
        refine j_sub [4, 5, 6, 7, 3, 2, 1, 0] rfl ?_
        exact t12_pence_85 K hr hlk N ρ N x1 x2 x3 v5 x1 0 0 μ h
      · have h := if_t h q
        refine j_iconst (v := 0) K d12_pence_61 (by decide) ?_
        exact mret_i K h hr hlk d12_pence_62
    · have h := if_f h q
      refine j_iload_n K 3 d12_pence_38 rfl rfl ?_
      refine j_aload_n K 0 d12_pence_39 rfl rfl ?_
      refine mg_said K d12_pence_40 ?_
      refine j_bipush (v := 23) K d12_pence_43 (by decide) ?_
      refine j_iload K 4 d12_pence_45 rfl ?_
      refine j_iadd K d12_pence_47 ?_
      obtain ⟨v24, e24, h⟩ := lt_e h
      refine j_eqi e24 ?_
      obtain ⟨q25, h⟩ := ck_e h
      refine ml_said K (inb_e q25) d12_pence_48 ?_
      refine j_iadd K d12_pence_49 ?_
      obtain ⟨v26, e26, h⟩ := lt_e h
      refine j_eqi e26 ?_
      refine j_istore_n (lv' := [(3, .int v26), (0, .ref θ.1), (1, .int x1), (2, .int x2), (4, .int x4)]) K d12_pence_50 rfl (by decide) rfl ?_
      obtain ⟨v27, e27, h⟩ := lt_e h
      refine j_iinc (k := 4) (v := v27) (lv' := [(4, .int v27), (3, .int v26), (0, .ref θ.1), (1, .int x1), (2, .int x2)]) K d12_pence_51 rfl (by rw [e27]; rfl) (by decide) rfl ?_
      refine j_goto (tgt := 27) K d12_pence_54 (by decide) ?_
      refine j_sub [2, 3, 4, 1, 0] rfl ?_
      exact ih x1 x2 v26 v27 μ h
def p12_pence (N : Nat) (a1 : Int32) (a2 : Int32) (μ : Mz) : Option (Int32 × Mz) := bd (p12_isInBook N a2 μ) (fun r1 μ1 => if r1 = 0 then some ((-1), μ1) else bo (p12_in N (a1.toInt64) 0 9999) (fun r2 => if r2 = 0 then some ((-1), μ1) else b12_pence_27 N N a1 a2 0 0 μ1))
set_option maxHeartbeats 4000000 in
set_option maxRecDepth 100000 in
theorem c12_pence_ok (l : Launch) (D : va_G) (θ : Th) (N : Nat) (a1 : Int32) (a2 : Int32) (μ : Mz) (ρ : Int32 × Mz) (h : p12_pence N a1 a2 μ = some ρ) : CMi l D θ y12_pence c12_pence 9 (some .int) 2 [.int a1, .int a2] μ ρ := by
  intro sz
  refine j_met l [.ref θ.1, .int a1, .int a2] (by decide +kernel) (Nat.le_of_ble_eq_true rfl) ?_
  intro p e s m args below meth c K hr hlk hnm hs
  generalize va_A (wM θ μ) sz = A at K ⊢
  have K : KM p s m args c c12_pence 9 y12_pence (some .int) D θ A := K
  show JM p l e s m args below meth c D θ A 2 9 (QMi below args s D θ A ρ) μ [(0, .ref θ.1), (1, .int a1), (2, .int a2)] [] 0
  unfold p12_pence at h
  refine j_aload_n K 0 d12_pence_0 rfl rfl ?_
  refine j_iload_n K 2 d12_pence_1 rfl rfl ?_
  obtain ⟨r1, μ1, e1, h⟩ := bd_e h
  refine mcall_i K (c12_isInBook_ok l D θ N a2 μ _ e1) mG_isInBook mh_isInBook (by decide) (by decide) rfl (st := []) (Nat.le_of_ble_eq_true rfl) rfl d12_pence_2 ?_
  refine j_if_eq (tgt := 20) K d12_pence_5 (by decide) (fun q => ?_) (fun q => ?_)
  · have h := if_t h q
    refine j_iconst (v := (-1)) K d12_pence_20 (by decide) ?_
    exact mret_i K h hr hlk d12_pence_21
  · have h := if_f h q
    refine j_iload_n K 1 d12_pence_8 rfl rfl ?_
    refine j_i2l K d12_pence_9 ?_
    refine j_lconst (v := 0) K d12_pence_10 (by decide) ?_
    refine j_ldc2 (v := 9999) K (List.mem_cons_of_mem _ mk12_432) d12_pence_11 ?_
    obtain ⟨r2, e2, h⟩ := bo_e h
    refine mcalls_i K (c12_in_ok l D θ N (a1.toInt64) 0 9999 _ e2) mG_in mh_in (by decide) (by decide) rfl (st := []) (Nat.le_of_ble_eq_true rfl) rfl d12_pence_14 ?_
    refine j_if_ne (tgt := 22) K d12_pence_17 (by decide) (fun q => ?_) (fun q => ?_)
    · have h := if_f h q
      refine j_iconst (v := 0) K d12_pence_22 (by decide) ?_
      refine j_istore_n (lv' := [(3, .int 0), (0, .ref θ.1), (1, .int a1), (2, .int a2)]) K d12_pence_23 rfl (by decide) rfl ?_
      refine j_iconst (v := 0) K d12_pence_24 (by decide) ?_
      refine j_istore (lv' := [(4, .int 0), (3, .int 0), (0, .ref θ.1), (1, .int a1), (2, .int a2)]) K d12_pence_25 (by decide) rfl ?_
      refine j_sub [2, 3, 4, 1, 0] rfl ?_
      exact t12_pence_27 K hr hlk N ρ N a1 a2 0 0 μ1 h
    · have h := if_t h q
      refine j_iconst (v := (-1)) K d12_pence_20 (by decide) ?_
      exact mret_i K h hr hlk d12_pence_21
def p12_note (N : Nat) (a1 : Int32) (a2 : Int32) (a3 : Int32) (μ : Mz) : Option (Int32 × Mz) := if a1 = (-1) then lt (sa 7 (upd (ga 7 μ) (128 : Int32).toNatClampNeg 0) μ) (fun μ13 => some (0, μ13)) else bo (p12_in N (a1.toInt64) 0 60) (fun r1 => if r1 = 0 then some ((-2), μ) else bd (p12_isInBook N a2 μ) (fun r2 μ2 => if r2 = 0 then some ((-2), μ2) else bo (p12_in N (a3.toInt64) 0 7) (fun r3 => if r3 = 0 then some ((-2), μ2) else if (ga 7 μ2 (128 : Int32).toNatClampNeg) = 10 then some ((-2), μ2) else lt (98 + (3 * (ga 7 μ2 (128 : Int32).toNatClampNeg))) (fun v4 => ck (inb v4 129) (lt (sa 7 (upd (ga 7 μ2) v4.toNatClampNeg a1) μ2) (fun μ6 => ck (inb (v4 + 1) 129) (lt (sa 7 (upd (ga 7 μ6) (v4 + 1).toNatClampNeg a2) μ6) (fun μ8 => ck (inb (v4 + 2) 129) (lt (sa 7 (upd (ga 7 μ8) (v4 + 2).toNatClampNeg a3) μ8) (fun μ10 => lt ((ga 7 μ10 (128 : Int32).toNatClampNeg) + 1) (fun v11 => lt (sa 7 (upd (ga 7 μ10) (128 : Int32).toNatClampNeg v11) μ10) (fun μ12 => some (ga 7 μ12 (128 : Int32).toNatClampNeg, μ12)))))))))))))
set_option maxHeartbeats 4000000 in
set_option maxRecDepth 100000 in
theorem c12_note_ok (l : Launch) (D : va_G) (θ : Th) (N : Nat) (a1 : Int32) (a2 : Int32) (a3 : Int32) (μ : Mz) (ρ : Int32 × Mz) (h : p12_note N a1 a2 a3 μ = some ρ) : CMi l D θ y12_note c12_note 5 (some .int) 2 [.int a1, .int a2, .int a3] μ ρ := by
  intro sz
  refine j_met l [.ref θ.1, .int a1, .int a2, .int a3] (by decide +kernel) (Nat.le_of_ble_eq_true rfl) ?_
  intro p e s m args below meth c K hr hlk hnm hs
  generalize va_A (wM θ μ) sz = A at K ⊢
  have K : KM p s m args c c12_note 5 y12_note (some .int) D θ A := K
  show JM p l e s m args below meth c D θ A 2 5 (QMi below args s D θ A ρ) μ [(0, .ref θ.1), (1, .int a1), (2, .int a2), (3, .int a3)] [] 0
  unfold p12_note at h
  refine j_iload_n K 1 d12_note_0 rfl rfl ?_
  refine j_iconst (v := (-1)) K d12_note_1 (by decide) ?_
  refine j_icmp_ne (tgt := 16) K d12_note_2 (by decide) (fun q => ?_) (fun q => ?_)
  · have h := if_f h q
    refine j_iload_n K 1 d12_note_16 rfl rfl ?_
    refine j_i2l K d12_note_17 ?_
    refine j_lconst (v := 0) K d12_note_18 (by decide) ?_
    refine j_ldc2 (v := 60) K (List.mem_cons_of_mem _ mk12_434) d12_note_19 ?_
    obtain ⟨r1, e1, h⟩ := bo_e h
    refine mcalls_i K (c12_in_ok l D θ N (a1.toInt64) 0 60 _ e1) mG_in mh_in (by decide) (by decide) rfl (st := []) (Nat.le_of_ble_eq_true rfl) rfl d12_note_22 ?_
    refine j_if_eq (tgt := 61) K d12_note_25 (by decide) (fun q => ?_) (fun q => ?_)
    · have h := if_t h q
      refine j_bipush (v := (-2)) K d12_note_61 (by decide) ?_
      exact mret_i K h hr hlk d12_note_63
    · have h := if_f h q
      refine j_aload_n K 0 d12_note_28 rfl rfl ?_
      refine j_iload_n K 2 d12_note_29 rfl rfl ?_
      obtain ⟨r2, μ2, e2, h⟩ := bd_e h
      refine mcall_i K (c12_isInBook_ok l D θ N a2 μ _ e2) mG_isInBook mh_isInBook (by decide) (by decide) rfl (st := []) (Nat.le_of_ble_eq_true rfl) rfl d12_note_30 ?_
      refine j_if_eq (tgt := 61) K d12_note_33 (by decide) (fun q => ?_) (fun q => ?_)
      · have h := if_t h q
        refine j_bipush (v := (-2)) K d12_note_61 (by decide) ?_
        exact mret_i K h hr hlk d12_note_63
      · have h := if_f h q
        refine j_iload_n K 3 d12_note_36 rfl rfl ?_
        refine j_i2l K d12_note_37 ?_
        refine j_lconst (v := 0) K d12_note_38 (by decide) ?_
        refine j_ldc2 (v := 7) K (List.mem_cons_of_mem _ mk12_364) d12_note_39 ?_
        obtain ⟨r3, e3, h⟩ := bo_e h
        refine mcalls_i K (c12_in_ok l D θ N (a3.toInt64) 0 7 _ e3) mG_in mh_in (by decide) (by decide) rfl (st := []) (Nat.le_of_ble_eq_true rfl) rfl d12_note_42 ?_
        refine j_if_eq (tgt := 61) K d12_note_45 (by decide) (fun q => ?_) (fun q => ?_)
        · have h := if_t h q
          refine j_bipush (v := (-2)) K d12_note_61 (by decide) ?_
          exact mret_i K h hr hlk d12_note_63
        · have h := if_f h q
          refine j_aload_n K 0 d12_note_48 rfl rfl ?_
          refine mg_said K d12_note_49 ?_
          refine j_sipush (v := 128) K d12_note_52 (by decide) ?_
          refine ml_said K (inb_e (by decide)) d12_note_55 ?_
          refine j_bipush (v := 10) K d12_note_56 (by decide) ?_
          refine j_icmp_ne (tgt := 64) K d12_note_58 (by decide) (fun q => ?_) (fun q => ?_)
          · have h := if_f h q
            refine j_bipush (v := 98) K d12_note_64 (by decide) ?_
            refine j_iconst (v := 3) K d12_note_66 (by decide) ?_
            refine j_aload_n K 0 d12_note_67 rfl rfl ?_
            refine mg_said K d12_note_68 ?_
            refine j_sipush (v := 128) K d12_note_71 (by decide) ?_
            refine ml_said K (inb_e (by decide)) d12_note_74 ?_
            refine j_imul K d12_note_75 ?_
            refine j_iadd K d12_note_76 ?_
            obtain ⟨v4, e4, h⟩ := lt_e h
            refine j_eqi e4 ?_
            refine j_istore (lv' := [(4, .int v4), (0, .ref θ.1), (1, .int a1), (2, .int a2), (3, .int a3)]) K d12_note_77 (by decide) rfl ?_
            refine j_aload_n K 1 d12_note_79 rfl rfl ?_
            refine mg_said K d12_note_80 ?_
            refine j_iload K 0 d12_note_83 rfl ?_
            refine j_iload_n K 2 d12_note_85 rfl rfl ?_
            obtain ⟨q5, h⟩ := ck_e h
            obtain ⟨μ6, e6, h⟩ := lt_e h
            refine ms_said K (inb_e q5) d12_note_86 e6 ?_
            refine j_aload_n K 1 d12_note_87 rfl rfl ?_
            refine mg_said K d12_note_88 ?_
            refine j_iload K 0 d12_note_91 rfl ?_
            refine j_iconst (v := 1) K d12_note_93 (by decide) ?_
            refine j_iadd K d12_note_94 ?_
            refine j_iload_n K 3 d12_note_95 rfl rfl ?_
            obtain ⟨q7, h⟩ := ck_e h
            obtain ⟨μ8, e8, h⟩ := lt_e h
            refine ms_said K (inb_e q7) d12_note_96 e8 ?_
            refine j_aload_n K 1 d12_note_97 rfl rfl ?_
            refine mg_said K d12_note_98 ?_
            refine j_iload K 0 d12_note_101 rfl ?_
            refine j_iconst (v := 2) K d12_note_103 (by decide) ?_
            refine j_iadd K d12_note_104 ?_
            refine j_iload_n K 4 d12_note_105 rfl rfl ?_
            obtain ⟨q9, h⟩ := ck_e h
            obtain ⟨μ10, e10, h⟩ := lt_e h
            refine ms_said K (inb_e q9) d12_note_106 e10 ?_
            refine j_aload_n K 1 d12_note_107 rfl rfl ?_
            refine mg_said K d12_note_108 ?_
            refine j_sipush (v := 128) K d12_note_111 (by decide) ?_
            refine j_dup2 K d12_note_114 rfl rfl ?_
            refine ml_said K (inb_e (by decide)) d12_note_115 ?_
            refine j_iconst (v := 1) K d12_note_116 (by decide) ?_
            refine j_iadd K d12_note_117 ?_
            obtain ⟨v11, e11, h⟩ := lt_e h
            refine j_eqi e11 ?_
            obtain ⟨μ12, e12, h⟩ := lt_e h
            refine ms_said K (inb_e (by decide)) d12_note_118 e12 ?_
            refine j_aload_n K 1 d12_note_119 rfl rfl ?_
            refine mg_said K d12_note_120 ?_
            refine j_sipush (v := 128) K d12_note_123 (by decide) ?_
            refine ml_said K (inb_e (by decide)) d12_note_126 ?_
            exact mret_i K h hr hlk d12_note_127
          · have h := if_t h q
            refine j_bipush (v := (-2)) K d12_note_61 (by decide) ?_
            exact mret_i K h hr hlk d12_note_63
  · have h := if_t h q
    refine j_aload_n K 0 d12_note_5 rfl rfl ?_
    refine mg_said K d12_note_6 ?_
    refine j_sipush (v := 128) K d12_note_9 (by decide) ?_
    refine j_iconst (v := 0) K d12_note_12 (by decide) ?_
    obtain ⟨μ13, e13, h⟩ := lt_e h
    refine ms_said K (inb_e (by decide)) d12_note_13 e13 ?_
    refine j_iconst (v := 0) K d12_note_14 (by decide) ?_
    exact mret_i K h hr hlk d12_note_15
def p12_slipsOne (N : Nat)  (μ : Mz) : Option (Mz) := bd (p12_draw N (ga 7 μ (3 : Int32).toNatClampNeg) μ) (fun r1 μ1 => bd (p12_draw N 8 μ1) (fun r2 μ2 => ck (inb (13 + r1) 129) (lt (sa 7 (upd (ga 7 μ2) (13 + r1).toNatClampNeg r2) μ2) (fun μ4 => some μ4))))
set_option maxHeartbeats 4000000 in
set_option maxRecDepth 100000 in
theorem c12_slipsOne_ok (l : Launch) (D : va_G) (θ : Th) (N : Nat)  (μ : Mz) (ρ : Mz) (h : p12_slipsOne N  μ = some ρ) : CMv l D θ y12_slipsOne c12_slipsOne 2 none 2 [] μ ρ := by
  intro sz
  refine j_met l [.ref θ.1] (by decide +kernel) (Nat.le_of_ble_eq_true rfl) ?_
  intro p e s m args below meth c K hr hlk hnm hs
  generalize va_A (wM θ μ) sz = A at K ⊢
  have K : KM p s m args c c12_slipsOne 2 y12_slipsOne none D θ A := K
  show JM p l e s m args below meth c D θ A 2 2 (QMv below args s D θ A ρ) μ [(0, .ref θ.1)] [] 0
  unfold p12_slipsOne at h
  refine j_aload_n K 0 d12_slipsOne_0 rfl rfl ?_
  refine j_aload_n K 0 d12_slipsOne_1 rfl rfl ?_
  refine mg_said K d12_slipsOne_2 ?_
  refine j_iconst (v := 3) K d12_slipsOne_5 (by decide) ?_
  refine ml_said K (inb_e (by decide)) d12_slipsOne_6 ?_
  obtain ⟨r1, μ1, e1, h⟩ := bd_e h
  refine mcall_i K (c12_draw_ok l D θ N (ga 7 μ (3 : Int32).toNatClampNeg) μ _ e1) mG_draw mh_draw (by decide) (by decide) rfl (st := []) (Nat.le_of_ble_eq_true rfl) rfl d12_slipsOne_7 ?_
  refine j_istore_n (lv' := [(1, .int r1), (0, .ref θ.1)]) K d12_slipsOne_10 rfl (by decide) rfl ?_
  refine j_aload_n K 1 d12_slipsOne_11 rfl rfl ?_
  refine mg_said K d12_slipsOne_12 ?_
  refine j_bipush (v := 13) K d12_slipsOne_15 (by decide) ?_
  refine j_iload_n K 0 d12_slipsOne_17 rfl rfl ?_
  refine j_iadd K d12_slipsOne_18 ?_
  refine j_aload_n K 1 d12_slipsOne_19 rfl rfl ?_
  refine j_bipush (v := 8) K d12_slipsOne_20 (by decide) ?_
  obtain ⟨r2, μ2, e2, h⟩ := bd_e h
  refine mcall_i K (c12_draw_ok l D θ N 8 μ1 _ e2) mG_draw mh_draw (by decide) (by decide) rfl (st := [.int (13 + r1), .ref (θ.2.1 9)]) (Nat.le_of_ble_eq_true rfl) rfl d12_slipsOne_22 ?_
  obtain ⟨q3, h⟩ := ck_e h
  obtain ⟨μ4, e4, h⟩ := lt_e h
  refine ms_said K (inb_e q3) d12_slipsOne_25 e4 ?_
  exact mret_v K h hr hlk d12_slipsOne_26
def b12_image_43 (N : Nat) : Nat → Int32 → Int32 → Mz → Option (Int32 × Mz)
  | 0, _, _, _ => none
  | n + 1, x1, x2, μ => if 129 ≤ x2 then some (ga 7 μ (10 : Int32).toNatClampNeg, μ) else ck (inb x2 129) (lt (ga 7 μ x2.toNatClampNeg) (fun v11 => ck (inb ((129 * x1) + x2) 516) (lt (sa 17 (upd (ga 17 μ) ((129 * x1) + x2).toNatClampNeg v11) μ) (fun μ13 => lt (x2 + 1) (fun v14 => b12_image_43 N n x1 v14 μ13)))))
set_option maxHeartbeats 4000000 in
set_option maxRecDepth 100000 in
theorem t12_image_43 {p : Program} {l : Launch} {e : Env} {s : State} {m : MethodId} {args : Array Value} {below : List Frame} {meth : Method} {c : Code} {D : va_G} {θ : Th} {A : Nat → Prop} (K : KM p s m args c c12_image 3 y12_image (some .int) D θ A) (hr : meth.sig.returnType = (some .int)) (hlk : meth.locks = false) (N : Nat) (ρ : Int32 × Mz) : ∀ (n : Nat) (x1 : Int32) (x2 : Int32) (μ : Mz), b12_image_43 N n x1 x2 μ = some ρ → JM p l e s m args below meth c D θ A 2 3 (QMi below args s D θ A ρ) μ [(0, .ref θ.1), (1, .int x1), (2, .int x2)] [] 43 := by
  intro n
  induction n with
  | zero =>
    intro x1 x2 μ h
    exact absurd h (by simp [b12_image_43])
  | succ n ih =>
    intro x1 x2 μ h
    rw [b12_image_43] at h
    refine j_iload_n K 2 d12_image_43 rfl rfl ?_
    refine j_sipush (v := 129) K d12_image_44 (by decide) ?_
    refine j_icmp_ge (tgt := 74) K d12_image_47 (by decide) (fun q => ?_) (fun q => ?_)
    · have h := if_t h q
      refine j_aload_n K 0 d12_image_74 rfl rfl ?_
      refine mg_said K d12_image_75 ?_
      refine j_bipush (v := 10) K d12_image_78 (by decide) ?_
      refine ml_said K (inb_e (by decide)) d12_image_80 ?_
      exact mret_i K h hr hlk d12_image_81
    · have h := if_f h q
      refine j_aload_n K 0 d12_image_50 rfl rfl ?_
      refine mg_images K d12_image_51 ?_
      refine j_sipush (v := 129) K d12_image_54 (by decide) ?_
      refine j_iload_n K 1 d12_image_57 rfl rfl ?_
      refine j_imul K d12_image_58 ?_
      refine j_iload_n K 2 d12_image_59 rfl rfl ?_
      refine j_iadd K d12_image_60 ?_
      refine j_aload_n K 0 d12_image_61 rfl rfl ?_
      refine mg_said K d12_image_62 ?_
      refine j_iload_n K 2 d12_image_65 rfl rfl ?_
      obtain ⟨q10, h⟩ := ck_e h
      refine ml_said K (inb_e q10) d12_image_66 ?_
      obtain ⟨v11, e11, h⟩ := lt_e h
      refine j_eqi e11 ?_
      obtain ⟨q12, h⟩ := ck_e h
      obtain ⟨μ13, e13, h⟩ := lt_e h
      refine ms_images K (inb_e q12) d12_image_67 e13 ?_
      obtain ⟨v14, e14, h⟩ := lt_e h
      refine j_iinc (k := 2) (v := v14) (lv' := [(2, .int v14), (0, .ref θ.1), (1, .int x1)]) K d12_image_68 rfl (by rw [e14]; rfl) (by decide) rfl ?_
      refine j_goto (tgt := 43) K d12_image_71 (by decide) ?_
      refine j_sub [1, 2, 0] rfl ?_
      exact ih x1 v14 μ13 h
def p12_image (N : Nat) (a1 : Int32) (μ : Mz) : Option (Int32 × Mz) := bo (p12_in N (a1.toInt64) 0 3) (fun r1 => if r1 = 0 then some ((-1), μ) else ck (inb a1 4) (lt (sa 20 (upd (ga 20 μ) a1.toNatClampNeg (vp_nar .boolean 1)) μ) (fun μ3 => lt (gi 11 μ3) (fun v4 => ck (inb a1 4) (lt (sa 18 (upd (ga 18 μ3) a1.toNatClampNeg v4) μ3) (fun μ6 => lt (gi 12 μ6) (fun v7 => ck (inb a1 4) (lt (sa 19 (upd (ga 19 μ6) a1.toNatClampNeg v7) μ6) (fun μ9 => b12_image_43 N N a1 0 μ9)))))))))
set_option maxHeartbeats 4000000 in
set_option maxRecDepth 100000 in
theorem c12_image_ok (l : Launch) (D : va_G) (θ : Th) (N : Nat) (a1 : Int32) (μ : Mz) (ρ : Int32 × Mz) (h : p12_image N a1 μ = some ρ) : CMi l D θ y12_image c12_image 3 (some .int) 2 [.int a1] μ ρ := by
  intro sz
  refine j_met l [.ref θ.1, .int a1] (by decide +kernel) (Nat.le_of_ble_eq_true rfl) ?_
  intro p e s m args below meth c K hr hlk hnm hs
  generalize va_A (wM θ μ) sz = A at K ⊢
  have K : KM p s m args c c12_image 3 y12_image (some .int) D θ A := K
  show JM p l e s m args below meth c D θ A 2 3 (QMi below args s D θ A ρ) μ [(0, .ref θ.1), (1, .int a1)] [] 0
  unfold p12_image at h
  refine j_iload_n K 1 d12_image_0 rfl rfl ?_
  refine j_i2l K d12_image_1 ?_
  refine j_lconst (v := 0) K d12_image_2 (by decide) ?_
  refine j_ldc2 (v := 3) K (List.mem_cons_of_mem _ mk12_370) d12_image_3 ?_
  obtain ⟨r1, e1, h⟩ := bo_e h
  refine mcalls_i K (c12_in_ok l D θ N (a1.toInt64) 0 3 _ e1) mG_in mh_in (by decide) (by decide) rfl (st := []) (Nat.le_of_ble_eq_true rfl) rfl d12_image_6 ?_
  refine j_if_ne (tgt := 14) K d12_image_9 (by decide) (fun q => ?_) (fun q => ?_)
  · have h := if_f h q
    refine j_aload_n K 0 d12_image_14 rfl rfl ?_
    refine mg_isMade K d12_image_15 ?_
    refine j_iload_n K 1 d12_image_18 rfl rfl ?_
    refine j_iconst (v := 1) K d12_image_19 (by decide) ?_
    obtain ⟨q2, h⟩ := ck_e h
    obtain ⟨μ3, e3, h⟩ := lt_e h
    refine ms_isMade K (inb_e q2) d12_image_20 e3 ?_
    refine j_aload_n K 0 d12_image_21 rfl rfl ?_
    refine mg_imageForce K d12_image_22 ?_
    refine j_iload_n K 1 d12_image_25 rfl rfl ?_
    refine j_aload_n K 0 d12_image_26 rfl rfl ?_
    refine mg_force K d12_image_27 ?_
    obtain ⟨v4, e4, h⟩ := lt_e h
    refine j_eqi e4 ?_
    obtain ⟨q5, h⟩ := ck_e h
    obtain ⟨μ6, e6, h⟩ := lt_e h
    refine ms_imageForce K (inb_e q5) d12_image_30 e6 ?_
    refine j_aload_n K 0 d12_image_31 rfl rfl ?_
    refine mg_imageX K d12_image_32 ?_
    refine j_iload_n K 1 d12_image_35 rfl rfl ?_
    refine j_aload_n K 0 d12_image_36 rfl rfl ?_
    refine mg_x K d12_image_37 ?_
    obtain ⟨v7, e7, h⟩ := lt_e h
    refine j_eqi e7 ?_
    obtain ⟨q8, h⟩ := ck_e h
    obtain ⟨μ9, e9, h⟩ := lt_e h
    refine ms_imageX K (inb_e q8) d12_image_40 e9 ?_
    refine j_iconst (v := 0) K d12_image_41 (by decide) ?_
    refine j_istore_n (lv' := [(2, .int 0), (0, .ref θ.1), (1, .int a1)]) K d12_image_42 rfl (by decide) rfl ?_
    refine j_sub [1, 2, 0] rfl ?_
    exact t12_image_43 K hr hlk N ρ N a1 0 μ9 h
  · have h := if_t h q
    refine j_iconst (v := (-1)) K d12_image_12 (by decide) ?_
    exact mret_i K h hr hlk d12_image_13
