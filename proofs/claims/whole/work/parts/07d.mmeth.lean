def p12_makes (N : Nat) (a1 : Int32) (μ : Mz) : Option (Int32 × Mz) := if (gi 6 μ) = 60 then bd (p12_fails N 3 a1 μ) (fun r2 μ2 => ck (b01 r2) (some (r2, μ2))) else lt (si 6 ((gi 6 μ) + 1) μ) (fun μ1 => some (1, μ1))
set_option maxHeartbeats 4000000 in
set_option maxRecDepth 100000 in
theorem c12_makes_ok (l : Launch) (D : va_G) (θ : Th) (N : Nat) (a1 : Int32) (μ : Mz) (ρ : Int32 × Mz) (h : p12_makes N a1 μ = some ρ) : CMi l D θ y12_makes c12_makes 2 (some .boolean) 2 [.int a1] μ ρ := by
  intro sz
  refine j_met l [.ref θ.1, .int a1] (by decide +kernel) (Nat.le_of_ble_eq_true rfl) ?_
  intro p e s m args below meth c K hr hlk hnm hs
  generalize va_A (wM θ μ) sz = A at K ⊢
  have K : KM p s m args c c12_makes 2 y12_makes (some .boolean) D θ A := K
  show JM p l e s m args below meth c D θ A 2 2 (QMi below args s D θ A ρ) μ [(0, .ref θ.1), (1, .int a1)] [] 0
  unfold p12_makes at h
  refine j_aload_n K 0 d12_makes_0 rfl rfl ?_
  refine mg_made K d12_makes_1 ?_
  refine j_bipush (v := 60) K d12_makes_4 (by decide) ?_
  refine j_icmp_ne (tgt := 16) K d12_makes_6 (by decide) (fun q => ?_) (fun q => ?_)
  · have h := if_f h q
    refine j_aload_n K 0 d12_makes_16 rfl rfl ?_
    refine j_dup K d12_makes_17 rfl ?_
    refine mg_made K d12_makes_18 ?_
    refine j_iconst (v := 1) K d12_makes_21 (by decide) ?_
    refine j_iadd K d12_makes_22 ?_
    obtain ⟨μ1, e1, h⟩ := lt_e h
    refine mp_made K d12_makes_23 e1 ?_
    refine j_iconst (v := 1) K d12_makes_26 (by decide) ?_
    exact mret_z K h rfl hr hlk d12_makes_27
  · have h := if_t h q
    refine j_aload_n K 0 d12_makes_9 rfl rfl ?_
    refine j_iconst (v := 3) K d12_makes_10 (by decide) ?_
    refine j_iload_n K 1 d12_makes_11 rfl rfl ?_
    obtain ⟨r2, μ2, e2, h⟩ := bd_e h
    refine mcall_i K (c12_fails_ok l D θ N 3 a1 μ _ e2) mG_fails mh_fails (by decide) (by decide) rfl (st := []) (Nat.le_of_ble_eq_true rfl) rfl d12_makes_12 ?_
    obtain ⟨q3, h⟩ := ck_e h
    exact mret_z K h (b01_e q3) hr hlk d12_makes_15
def p12_opens (N : Nat) (a1 : Int32) (μ : Mz) : Option (Int32 × Mz) := if (gi 7 μ) = 10 then bd (p12_fails N 2 (gi 2 μ) μ) (fun r5 μ5 => ck (b01 r5) (some (r5, μ5))) else lt (si 7 ((gi 7 μ) + 1) μ) (fun μ1 => ck (inb (gi 9 μ1) 400) (lt (sa 6 (upd (ga 6 μ1) (gi 9 μ1).toNatClampNeg a1) μ1) (fun μ3 => lt (si 9 ((gi 9 μ3) + 1) μ3) (fun μ4 => some (1, μ4)))))
set_option maxHeartbeats 4000000 in
set_option maxRecDepth 100000 in
theorem c12_opens_ok (l : Launch) (D : va_G) (θ : Th) (N : Nat) (a1 : Int32) (μ : Mz) (ρ : Int32 × Mz) (h : p12_opens N a1 μ = some ρ) : CMi l D θ y12_opens c12_opens 2 (some .boolean) 2 [.int a1] μ ρ := by
  intro sz
  refine j_met l [.ref θ.1, .int a1] (by decide +kernel) (Nat.le_of_ble_eq_true rfl) ?_
  intro p e s m args below meth c K hr hlk hnm hs
  generalize va_A (wM θ μ) sz = A at K ⊢
  have K : KM p s m args c c12_opens 2 y12_opens (some .boolean) D θ A := K
  show JM p l e s m args below meth c D θ A 2 2 (QMi below args s D θ A ρ) μ [(0, .ref θ.1), (1, .int a1)] [] 0
  unfold p12_opens at h
  refine j_aload_n K 0 d12_opens_0 rfl rfl ?_
  refine mg_deep K d12_opens_1 ?_
  refine j_bipush (v := 10) K d12_opens_4 (by decide) ?_
  refine j_icmp_ne (tgt := 19) K d12_opens_6 (by decide) (fun q => ?_) (fun q => ?_)
  · have h := if_f h q
    refine j_aload_n K 0 d12_opens_19 rfl rfl ?_
    refine j_dup K d12_opens_20 rfl ?_
    refine mg_deep K d12_opens_21 ?_
    refine j_iconst (v := 1) K d12_opens_24 (by decide) ?_
    refine j_iadd K d12_opens_25 ?_
    obtain ⟨μ1, e1, h⟩ := lt_e h
    refine mp_deep K d12_opens_26 e1 ?_
    refine j_aload_n K 0 d12_opens_29 rfl rfl ?_
    refine mg_open K d12_opens_30 ?_
    refine j_aload_n K 0 d12_opens_33 rfl rfl ?_
    refine mg_opened K d12_opens_34 ?_
    refine j_iload_n K 1 d12_opens_37 rfl rfl ?_
    obtain ⟨q2, h⟩ := ck_e h
    obtain ⟨μ3, e3, h⟩ := lt_e h
    refine ms_open K (inb_e q2) d12_opens_38 e3 ?_
    refine j_aload_n K 0 d12_opens_39 rfl rfl ?_
    refine j_dup K d12_opens_40 rfl ?_
    refine mg_opened K d12_opens_41 ?_
    refine j_iconst (v := 1) K d12_opens_44 (by decide) ?_
    refine j_iadd K d12_opens_45 ?_
    obtain ⟨μ4, e4, h⟩ := lt_e h
    refine mp_opened K d12_opens_46 e4 ?_
    refine j_iconst (v := 1) K d12_opens_49 (by decide) ?_
    exact mret_z K h rfl hr hlk d12_opens_50
  · have h := if_t h q
    refine j_aload_n K 0 d12_opens_9 rfl rfl ?_
    refine j_iconst (v := 2) K d12_opens_10 (by decide) ?_
    refine j_aload_n K 0 d12_opens_11 rfl rfl ?_
    refine mg_next K d12_opens_12 ?_
    obtain ⟨r5, μ5, e5, h⟩ := bd_e h
    refine mcall_i K (c12_fails_ok l D θ N 2 (gi 2 μ) μ _ e5) mG_fails mh_fails (by decide) (by decide) rfl (st := []) (Nat.le_of_ble_eq_true rfl) rfl d12_opens_15 ?_
    obtain ⟨q6, h⟩ := ck_e h
    exact mret_z K h (b01_e q6) hr hlk d12_opens_18
def b12_layDown_0 (N : Nat) : Nat → Int32 → Mz → Option (Mz)
  | 0, _, _ => none
  | n + 1, x1, μ => if (gi 9 μ) ≤ 0 then some μ else lt ((gi 9 μ) - 1) (fun v1 => ck (inb v1 400) (bo (p12_strength N (ga 6 μ v1.toNatClampNeg)) (fun r3 => if r3 < x1 then some μ else lt (si 9 ((gi 9 μ) - 1) μ) (fun μ4 => lt (gi 9 μ4) (fun v5 => ck (inb v5 400) (bo (p12_puts N (ga 6 μ4 v5.toNatClampNeg) 0 μ4) (fun μ7 => lt (gi 9 μ7) (fun v8 => ck (inb v8 400) (if (ga 6 μ7 v8.toNatClampNeg) = 11 then lt (si 7 ((gi 7 μ7) - 1) μ7) (fun μ10 => b12_layDown_0 N n x1 μ10) else b12_layDown_0 N n x1 μ7)))))))))
set_option maxHeartbeats 4000000 in
set_option maxRecDepth 100000 in
theorem t12_layDown_0 {p : Program} {l : Launch} {e : Env} {s : State} {m : MethodId} {args : Array Value} {below : List Frame} {meth : Method} {c : Code} {D : va_G} {θ : Th} {A : Nat → Prop} (K : KM p s m args c c12_layDown 2 y12_layDown none D θ A) (hr : meth.sig.returnType = none) (hlk : meth.locks = false) (N : Nat) (ρ : Mz) : ∀ (n : Nat) (x1 : Int32) (μ : Mz), b12_layDown_0 N n x1 μ = some ρ → JM p l e s m args below meth c D θ A 2 2 (QMv below args s D θ A ρ) μ [(0, .ref θ.1), (1, .int x1)] [] 0 := by
  intro n
  induction n with
  | zero =>
    intro x1 μ h
    exact absurd h (by simp [b12_layDown_0])
  | succ n ih =>
    intro x1 μ h
    rw [b12_layDown_0] at h
    refine j_aload_n K 0 d12_layDown_0 rfl rfl ?_
    refine mg_opened K d12_layDown_1 ?_
    refine j_if_le (tgt := 76) K d12_layDown_4 (by decide) (fun q => ?_) (fun q => ?_)
    · have h := if_t h q
      exact mret_v K h hr hlk d12_layDown_76
    · have h := if_f h q
      refine j_aload_n K 0 d12_layDown_7 rfl rfl ?_
      refine mg_open K d12_layDown_8 ?_
      refine j_aload_n K 0 d12_layDown_11 rfl rfl ?_
      refine mg_opened K d12_layDown_12 ?_
      refine j_iconst (v := 1) K d12_layDown_15 (by decide) ?_
      refine j_isub K d12_layDown_16 ?_
      obtain ⟨v1, e1, h⟩ := lt_e h
      refine j_eqi e1 ?_
      obtain ⟨q2, h⟩ := ck_e h
      refine ml_open K (inb_e q2) d12_layDown_17 ?_
      obtain ⟨r3, e3, h⟩ := bo_e h
      refine mcalls_i K (c12_strength_ok l D θ N (ga 6 μ v1.toNatClampNeg) _ e3) mG_strength mh_strength (by decide) (by decide) rfl (st := []) (Nat.le_of_ble_eq_true rfl) rfl d12_layDown_18 ?_
      refine j_iload_n K 1 d12_layDown_21 rfl rfl ?_
      refine j_icmp_lt (tgt := 76) K d12_layDown_22 (by decide) (fun q => ?_) (fun q => ?_)
      · have h := if_t h q
        exact mret_v K h hr hlk d12_layDown_76
      · have h := if_f h q
        refine j_aload_n K 0 d12_layDown_25 rfl rfl ?_
        refine j_dup K d12_layDown_26 rfl ?_
        refine mg_opened K d12_layDown_27 ?_
        refine j_iconst (v := 1) K d12_layDown_30 (by decide) ?_
        refine j_isub K d12_layDown_31 ?_
        obtain ⟨μ4, e4, h⟩ := lt_e h
        refine mp_opened K d12_layDown_32 e4 ?_
        refine j_aload_n K 0 d12_layDown_35 rfl rfl ?_
        refine j_aload_n K 0 d12_layDown_36 rfl rfl ?_
        refine mg_open K d12_layDown_37 ?_
        refine j_aload_n K 0 d12_layDown_40 rfl rfl ?_
        refine mg_opened K d12_layDown_41 ?_
        obtain ⟨v5, e5, h⟩ := lt_e h
        refine j_eqi e5 ?_
        obtain ⟨q6, h⟩ := ck_e h
        refine ml_open K (inb_e q6) d12_layDown_44 ?_
        refine j_iconst (v := 0) K d12_layDown_45 (by decide) ?_
        obtain ⟨μ7, e7, h⟩ := bo_e h
        refine mcall_v K (c12_puts_ok l D θ N (ga 6 μ4 v5.toNatClampNeg) 0 μ4 _ e7) mG_puts mh_puts (by decide) (by decide) rfl (st := []) (Nat.le_of_ble_eq_true rfl) rfl d12_layDown_46 ?_
        refine j_aload_n K 0 d12_layDown_49 rfl rfl ?_
        refine mg_open K d12_layDown_50 ?_
        refine j_aload_n K 0 d12_layDown_53 rfl rfl ?_
        refine mg_opened K d12_layDown_54 ?_
        obtain ⟨v8, e8, h⟩ := lt_e h
        refine j_eqi e8 ?_
        obtain ⟨q9, h⟩ := ck_e h
        refine ml_open K (inb_e q9) d12_layDown_57 ?_
        refine j_bipush (v := 11) K d12_layDown_58 (by decide) ?_
        refine j_icmp_ne (tgt := 0) K d12_layDown_60 (by decide) (fun q => ?_) (fun q => ?_)
        · have h := if_f h q
          exact ih x1 μ7 h
        · have h := if_t h q
          refine j_aload_n K 0 d12_layDown_63 rfl rfl ?_
          refine j_dup K d12_layDown_64 rfl ?_
          refine mg_deep K d12_layDown_65 ?_
          refine j_iconst (v := 1) K d12_layDown_68 (by decide) ?_
          refine j_isub K d12_layDown_69 ?_
          obtain ⟨μ10, e10, h⟩ := lt_e h
          refine mp_deep K d12_layDown_70 e10 ?_
          refine j_goto (tgt := 0) K d12_layDown_73 (by decide) ?_
          exact ih x1 μ10 h
def p12_layDown (N : Nat) (a1 : Int32) (μ : Mz) : Option (Mz) := b12_layDown_0 N N a1 μ
set_option maxHeartbeats 4000000 in
set_option maxRecDepth 100000 in
theorem c12_layDown_ok (l : Launch) (D : va_G) (θ : Th) (N : Nat) (a1 : Int32) (μ : Mz) (ρ : Mz) (h : p12_layDown N a1 μ = some ρ) : CMv l D θ y12_layDown c12_layDown 2 none 2 [.int a1] μ ρ := by
  intro sz
  refine j_met l [.ref θ.1, .int a1] (by decide +kernel) (Nat.le_of_ble_eq_true rfl) ?_
  intro p e s m args below meth c K hr hlk hnm hs
  generalize va_A (wM θ μ) sz = A at K ⊢
  have K : KM p s m args c c12_layDown 2 y12_layDown none D θ A := K
  show JM p l e s m args below meth c D θ A 2 2 (QMv below args s D θ A ρ) μ [(0, .ref θ.1), (1, .int a1)] [] 0
  unfold p12_layDown at h
  exact t12_layDown_0 K hr hlk N ρ N a1 μ h
def b12_reckons_8 (N : Nat) : Nat → Int32 → Int32 → Int32 → Mz → Option (Int64 × Mz)
  | 0, _, _, _, _ => none
  | n + 1, x1, x3, x4, μ => if x3 ≤ x4 then bd (p12_pop N  μ) (fun r2 μ2 => some (r2, μ2)) else lt ((400 * x1) + x4) (fun v3 => ck (inb v3 2400) (lt ((ga 1 μ v3.toNatClampNeg) &&& 15) (fun v5 => lt ((400 * x1) + x4) (fun v6 => ck (inb v6 2400) (lt ((ga 1 μ v6.toNatClampNeg) >>> (4 &&& 31)) (fun v8 => if v5 = 0 then bo (p12_push N (v8.toInt64) μ) (fun μ20 => lt (x4 + 1) (fun v21 => b12_reckons_8 N n x1 x3 v21 μ20)) else if v5 = 1 then ck (inb v8 12) (bo (p12_push N (gl 1 μ v8.toNatClampNeg) μ) (fun μ18 => lt (x4 + 1) (fun v19 => b12_reckons_8 N n x1 x3 v19 μ18))) else if v5 = 11 then bd (p12_pop N  μ) (fun r14 μ14 => bo (p12_push N (1 - r14) μ14) (fun μ15 => lt (x4 + 1) (fun v16 => b12_reckons_8 N n x1 x3 v16 μ15))) else bd (p12_pop N  μ) (fun r9 μ9 => bd (p12_pop N  μ9) (fun r10 μ10 => bo (p12_sumOfTwo N v5 r10 r9) (fun r11 => bo (p12_push N r11 μ10) (fun μ12 => lt (x4 + 1) (fun v13 => b12_reckons_8 N n x1 x3 v13 μ12)))))))))))
set_option maxHeartbeats 4000000 in
set_option maxRecDepth 100000 in
theorem t12_reckons_8 {p : Program} {l : Launch} {e : Env} {s : State} {m : MethodId} {args : Array Value} {below : List Frame} {meth : Method} {c : Code} {D : va_G} {θ : Th} {A : Nat → Prop} (K : KM p s m args c c12_reckons 11 y12_reckons (some .long) D θ A) (hr : meth.sig.returnType = (some .long)) (hlk : meth.locks = false) (N : Nat) (ρ : Int64 × Mz) : ∀ (n : Nat) (x1 : Int32) (x3 : Int32) (x4 : Int32) (μ : Mz), b12_reckons_8 N n x1 x3 x4 μ = some ρ → JM p l e s m args below meth c D θ A 2 11 (QMl below args s D θ A ρ) μ [(0, .ref θ.1), (1, .int x1), (3, .int x3), (4, .int x4)] [] 8 := by
  intro n
  induction n with
  | zero =>
    intro x1 x3 x4 μ h
    exact absurd h (by simp [b12_reckons_8])
  | succ n ih =>
    intro x1 x3 x4 μ h
    rw [b12_reckons_8] at h
    refine j_iload K 3 d12_reckons_8 rfl ?_
    refine j_iload_n K 2 d12_reckons_10 rfl rfl ?_
    refine j_icmp_ge (tgt := 135) K d12_reckons_11 (by decide) (fun q => ?_) (fun q => ?_)
    · have h := if_t h q
      refine j_aload_n K 0 d12_reckons_135 rfl rfl ?_
      obtain ⟨r2, μ2, e2, h⟩ := bd_e h
      refine mcall_l K (c12_pop_ok l D θ N  μ _ e2) mG_pop mh_pop (by decide) (by decide) rfl (st := []) (Nat.le_of_ble_eq_true rfl) rfl d12_reckons_136 ?_
      exact mret_l K h hr hlk d12_reckons_139
    · have h := if_f h q
      refine j_aload_n K 0 d12_reckons_14 rfl rfl ?_
      refine mg_sign K d12_reckons_15 ?_
      refine j_sipush (v := 400) K d12_reckons_18 (by decide) ?_
      refine j_iload_n K 1 d12_reckons_21 rfl rfl ?_
      refine j_imul K d12_reckons_22 ?_
      refine j_iload K 3 d12_reckons_23 rfl ?_
      refine j_iadd K d12_reckons_25 ?_
      obtain ⟨v3, e3, h⟩ := lt_e h
      refine j_eqi e3 ?_
      obtain ⟨q4, h⟩ := ck_e h
      refine ml_sign K (inb_e q4) d12_reckons_26 ?_
      refine j_bipush (v := 15) K d12_reckons_27 (by decide) ?_
      refine j_iand K d12_reckons_29 ?_
      obtain ⟨v5, e5, h⟩ := lt_e h
      refine j_eqi e5 ?_
      refine j_istore (lv' := [(5, .int v5), (0, .ref θ.1), (1, .int x1), (3, .int x3), (4, .int x4)]) K d12_reckons_30 (by decide) rfl ?_
      refine j_aload_n K 1 d12_reckons_32 rfl rfl ?_
      refine mg_sign K d12_reckons_33 ?_
      refine j_sipush (v := 400) K d12_reckons_36 (by decide) ?_
      refine j_iload_n K 2 d12_reckons_39 rfl rfl ?_
      refine j_imul K d12_reckons_40 ?_
      refine j_iload K 4 d12_reckons_41 rfl ?_
      refine j_iadd K d12_reckons_43 ?_
      obtain ⟨v6, e6, h⟩ := lt_e h
      refine j_eqi e6 ?_
      obtain ⟨q7, h⟩ := ck_e h
      refine ml_sign K (inb_e q7) d12_reckons_44 ?_
      refine j_iconst (v := 4) K d12_reckons_45 (by decide) ?_
      refine j_ishr K d12_reckons_46 ?_
      obtain ⟨v8, e8, h⟩ := lt_e h
      refine j_eqi e8 ?_
      refine j_istore (lv' := [(6, .int v8), (5, .int v5), (0, .ref θ.1), (1, .int x1), (3, .int x3), (4, .int x4)]) K d12_reckons_47 (by decide) rfl ?_
      refine j_iload K 1 d12_reckons_49 rfl ?_
      refine j_if_ne (tgt := 64) K d12_reckons_51 (by decide) (fun q => ?_) (fun q => ?_)
      · have h := if_f h q
        refine j_iload K 1 d12_reckons_64 rfl ?_
        refine j_iconst (v := 1) K d12_reckons_66 (by decide) ?_
        refine j_icmp_ne (tgt := 84) K d12_reckons_67 (by decide) (fun q => ?_) (fun q => ?_)
        · have h := if_f h q
          refine j_iload K 1 d12_reckons_84 rfl ?_
          refine j_bipush (v := 11) K d12_reckons_86 (by decide) ?_
          refine j_icmp_ne (tgt := 104) K d12_reckons_88 (by decide) (fun q => ?_) (fun q => ?_)
          · have h := if_f h q
            refine j_aload_n K 2 d12_reckons_104 rfl rfl ?_
            obtain ⟨r9, μ9, e9, h⟩ := bd_e h
            refine mcall_l K (c12_pop_ok l D θ N  μ _ e9) mG_pop mh_pop (by decide) (by decide) rfl (st := []) (Nat.le_of_ble_eq_true rfl) rfl d12_reckons_105 ?_
            refine j_lstore (lv' := [(7, .long r9), (6, .int v8), (5, .int v5), (0, .ref θ.1), (1, .int x1), (3, .int x3), (4, .int x4)]) K d12_reckons_108 (by decide) rfl ?_
            refine j_aload_n K 3 d12_reckons_110 rfl rfl ?_
            obtain ⟨r10, μ10, e10, h⟩ := bd_e h
            refine mcall_l K (c12_pop_ok l D θ N  μ9 _ e10) mG_pop mh_pop (by decide) (by decide) rfl (st := []) (Nat.le_of_ble_eq_true rfl) rfl d12_reckons_111 ?_
            refine j_lstore (lv' := [(9, .long r10), (7, .long r9), (6, .int v8), (5, .int v5), (0, .ref θ.1), (1, .int x1), (3, .int x3), (4, .int x4)]) K d12_reckons_114 (by decide) rfl ?_
            refine j_aload_n K 4 d12_reckons_116 rfl rfl ?_
            refine j_iload K 3 d12_reckons_117 rfl ?_
            refine j_lload K 0 d12_reckons_119 rfl ?_
            refine j_lload K 1 d12_reckons_121 rfl ?_
            obtain ⟨r11, e11, h⟩ := bo_e h
            refine mcalls_l K (c12_sumOfTwo_ok l D θ N v5 r10 r9 _ e11) mG_sumOfTwo mh_sumOfTwo (by decide) (by decide) rfl (st := [.ref θ.1]) (Nat.le_of_ble_eq_true rfl) rfl d12_reckons_123 ?_
            obtain ⟨μ12, e12, h⟩ := bo_e h
            refine mcall_v K (c12_push_ok l D θ N r11 μ10 _ e12) mG_push mh_push (by decide) (by decide) rfl (st := []) (Nat.le_of_ble_eq_true rfl) rfl d12_reckons_126 ?_
            obtain ⟨v13, e13, h⟩ := lt_e h
            refine j_iinc (k := 7) (v := v13) (lv' := [(4, .int v13), (9, .long r10), (7, .long r9), (6, .int v8), (5, .int v5), (0, .ref θ.1), (1, .int x1), (3, .int x3)]) K d12_reckons_129 rfl (by rw [e13]; rfl) (by decide) rfl ?_
            refine j_goto (tgt := 8) K d12_reckons_132 (by decide) ?_
            refine j_sub [5, 6, 7, 0] rfl ?_
            exact ih x1 x3 v13 μ12 h
          · have h := if_t h q
            refine j_aload_n K 2 d12_reckons_91 rfl rfl ?_
            refine j_lconst (v := 1) K d12_reckons_92 (by decide) ?_
            refine j_aload_n K 2 d12_reckons_93 rfl rfl ?_
            obtain ⟨r14, μ14, e14, h⟩ := bd_e h
            refine mcall_l K (c12_pop_ok l D θ N  μ _ e14) mG_pop mh_pop (by decide) (by decide) rfl (st := [.long 1, .ref θ.1]) (Nat.le_of_ble_eq_true rfl) rfl d12_reckons_94 ?_
            refine j_lsub K d12_reckons_97 ?_
            obtain ⟨μ15, e15, h⟩ := bo_e h
            refine mcall_v K (c12_push_ok l D θ N (1 - r14) μ14 _ e15) mG_push mh_push (by decide) (by decide) rfl (st := []) (Nat.le_of_ble_eq_true rfl) rfl d12_reckons_98 ?_
            refine j_goto (tgt := 129) K d12_reckons_101 (by decide) ?_
            obtain ⟨v16, e16, h⟩ := lt_e h
            refine j_iinc (k := 5) (v := v16) (lv' := [(4, .int v16), (6, .int v8), (5, .int v5), (0, .ref θ.1), (1, .int x1), (3, .int x3)]) K d12_reckons_129 rfl (by rw [e16]; rfl) (by decide) rfl ?_
            refine j_goto (tgt := 8) K d12_reckons_132 (by decide) ?_
            refine j_sub [3, 4, 5, 0] rfl ?_
            exact ih x1 x3 v16 μ15 h
        · have h := if_t h q
          refine j_aload_n K 2 d12_reckons_70 rfl rfl ?_
          refine j_aload_n K 2 d12_reckons_71 rfl rfl ?_
          refine mg_word K d12_reckons_72 ?_
          refine j_iload K 0 d12_reckons_75 rfl ?_
          obtain ⟨q17, h⟩ := ck_e h
          refine ml_word K (inb_e q17) d12_reckons_77 ?_
          obtain ⟨μ18, e18, h⟩ := bo_e h
          refine mcall_v K (c12_push_ok l D θ N (gl 1 μ v8.toNatClampNeg) μ _ e18) mG_push mh_push (by decide) (by decide) rfl (st := []) (Nat.le_of_ble_eq_true rfl) rfl d12_reckons_78 ?_
          refine j_goto (tgt := 129) K d12_reckons_81 (by decide) ?_
          obtain ⟨v19, e19, h⟩ := lt_e h
          refine j_iinc (k := 5) (v := v19) (lv' := [(4, .int v19), (6, .int v8), (5, .int v5), (0, .ref θ.1), (1, .int x1), (3, .int x3)]) K d12_reckons_129 rfl (by rw [e19]; rfl) (by decide) rfl ?_
          refine j_goto (tgt := 8) K d12_reckons_132 (by decide) ?_
          refine j_sub [3, 4, 5, 0] rfl ?_
          exact ih x1 x3 v19 μ18 h
      · have h := if_t h q
        refine j_aload_n K 2 d12_reckons_54 rfl rfl ?_
        refine j_iload K 0 d12_reckons_55 rfl ?_
        refine j_i2l K d12_reckons_57 ?_
        obtain ⟨μ20, e20, h⟩ := bo_e h
        refine mcall_v K (c12_push_ok l D θ N (v8.toInt64) μ _ e20) mG_push mh_push (by decide) (by decide) rfl (st := []) (Nat.le_of_ble_eq_true rfl) rfl d12_reckons_58 ?_
        refine j_goto (tgt := 129) K d12_reckons_61 (by decide) ?_
        obtain ⟨v21, e21, h⟩ := lt_e h
        refine j_iinc (k := 5) (v := v21) (lv' := [(4, .int v21), (6, .int v8), (5, .int v5), (0, .ref θ.1), (1, .int x1), (3, .int x3)]) K d12_reckons_129 rfl (by rw [e21]; rfl) (by decide) rfl ?_
        refine j_goto (tgt := 8) K d12_reckons_132 (by decide) ?_
        refine j_sub [3, 4, 5, 0] rfl ?_
        exact ih x1 x3 v21 μ20 h
def p12_reckons (N : Nat) (a1 : Int32) (a2 : Int32) (a3 : Int32) (μ : Mz) : Option (Int64 × Mz) := lt (si 10 0 μ) (fun μ1 => b12_reckons_8 N N a1 a3 a2 μ1)
set_option maxHeartbeats 4000000 in
set_option maxRecDepth 100000 in
theorem c12_reckons_ok (l : Launch) (D : va_G) (θ : Th) (N : Nat) (a1 : Int32) (a2 : Int32) (a3 : Int32) (μ : Mz) (ρ : Int64 × Mz) (h : p12_reckons N a1 a2 a3 μ = some ρ) : CMl l D θ y12_reckons c12_reckons 11 (some .long) 2 [.int a1, .int a2, .int a3] μ ρ := by
  intro sz
  refine j_met l [.ref θ.1, .int a1, .int a2, .int a3] (by decide +kernel) (Nat.le_of_ble_eq_true rfl) ?_
  intro p e s m args below meth c K hr hlk hnm hs
  generalize va_A (wM θ μ) sz = A at K ⊢
  have K : KM p s m args c c12_reckons 11 y12_reckons (some .long) D θ A := K
  show JM p l e s m args below meth c D θ A 2 11 (QMl below args s D θ A ρ) μ [(0, .ref θ.1), (1, .int a1), (2, .int a2), (3, .int a3)] [] 0
  unfold p12_reckons at h
  refine j_aload_n K 0 d12_reckons_0 rfl rfl ?_
  refine j_iconst (v := 0) K d12_reckons_1 (by decide) ?_
  obtain ⟨μ1, e1, h⟩ := lt_e h
  refine mp_top K d12_reckons_2 e1 ?_
  refine j_iload_n K 2 d12_reckons_5 rfl rfl ?_
  refine j_istore (lv' := [(4, .int a2), (0, .ref θ.1), (1, .int a1), (2, .int a2), (3, .int a3)]) K d12_reckons_6 (by decide) rfl ?_
  refine j_sub [1, 2, 4, 0] rfl ?_
  exact t12_reckons_8 K hr hlk N ρ N a1 a3 a2 μ1 h
def p12_rounds (N : Nat)  (μ : Mz) : Option (Int32 × Mz) := bd (p12_isBook N  μ) (fun r1 μ1 => if r1 = 0 then some (0, μ1) else if (ga 7 μ1 (2 : Int32).toNatClampNeg) = 0 then some (1, μ1) else some (ga 7 μ1 (2 : Int32).toNatClampNeg, μ1))
set_option maxHeartbeats 4000000 in
set_option maxRecDepth 100000 in
theorem c12_rounds_ok (l : Launch) (D : va_G) (θ : Th) (N : Nat)  (μ : Mz) (ρ : Int32 × Mz) (h : p12_rounds N  μ = some ρ) : CMi l D θ y12_rounds c12_rounds 1 (some .int) 2 [] μ ρ := by
  intro sz
  refine j_met l [.ref θ.1] (by decide +kernel) (Nat.le_of_ble_eq_true rfl) ?_
  intro p e s m args below meth c K hr hlk hnm hs
  generalize va_A (wM θ μ) sz = A at K ⊢
  have K : KM p s m args c c12_rounds 1 y12_rounds (some .int) D θ A := K
  show JM p l e s m args below meth c D θ A 2 1 (QMi below args s D θ A ρ) μ [(0, .ref θ.1)] [] 0
  unfold p12_rounds at h
  refine j_aload_n K 0 d12_rounds_0 rfl rfl ?_
  obtain ⟨r1, μ1, e1, h⟩ := bd_e h
  refine mcall_i K (c12_isBook_ok l D θ N  μ _ e1) mG_isBook mh_isBook (by decide) (by decide) rfl (st := []) (Nat.le_of_ble_eq_true rfl) rfl d12_rounds_1 ?_
  refine j_if_ne (tgt := 11) K d12_rounds_4 (by decide) (fun q => ?_) (fun q => ?_)
  · have h := if_f h q
    refine j_aload_n K 0 d12_rounds_11 rfl rfl ?_
    refine mg_said K d12_rounds_12 ?_
    refine j_iconst (v := 2) K d12_rounds_15 (by decide) ?_
    refine ml_said K (inb_e (by decide)) d12_rounds_16 ?_
    refine j_if_ne (tgt := 24) K d12_rounds_17 (by decide) (fun q => ?_) (fun q => ?_)
    · have h := if_f h q
      refine j_aload_n K 0 d12_rounds_24 rfl rfl ?_
      refine mg_said K d12_rounds_25 ?_
      refine j_iconst (v := 2) K d12_rounds_28 (by decide) ?_
      refine ml_said K (inb_e (by decide)) d12_rounds_29 ?_
      exact mret_i K h hr hlk d12_rounds_30
    · have h := if_t h q
      refine j_iconst (v := 1) K d12_rounds_20 (by decide) ?_
      refine j_goto (tgt := 30) K d12_rounds_21 (by decide) ?_
      exact mret_i K h hr hlk d12_rounds_30
  · have h := if_t h q
    refine j_iconst (v := 0) K d12_rounds_7 (by decide) ?_
    refine j_goto (tgt := 30) K d12_rounds_8 (by decide) ?_
    exact mret_i K h hr hlk d12_rounds_30
def b12_wrongOnes_4 (N : Nat) : Nat → Int32 → Int32 → Mz → Option (Int32 × Mz)
  | 0, _, _, _ => none
  | n + 1, x1, x2, μ => if (ga 7 μ (3 : Int32).toNatClampNeg) ≤ x2 then some (x1, μ) else bd (p12_isWrong N x2 μ) (fun r1 μ1 => if r1 = 0 then lt (x1 ||| 0) (fun v2 => lt (x2 + 1) (fun v3 => b12_wrongOnes_4 N n v2 v3 μ1)) else lt (x1 ||| ((1 : Int32) <<< (x2 &&& 31))) (fun v4 => lt (x2 + 1) (fun v5 => b12_wrongOnes_4 N n v4 v5 μ1)))
set_option maxHeartbeats 4000000 in
set_option maxRecDepth 100000 in
theorem t12_wrongOnes_4 {p : Program} {l : Launch} {e : Env} {s : State} {m : MethodId} {args : Array Value} {below : List Frame} {meth : Method} {c : Code} {D : va_G} {θ : Th} {A : Nat → Prop} (K : KM p s m args c c12_wrongOnes 3 y12_wrongOnes (some .int) D θ A) (hr : meth.sig.returnType = (some .int)) (hlk : meth.locks = false) (N : Nat) (ρ : Int32 × Mz) : ∀ (n : Nat) (x1 : Int32) (x2 : Int32) (μ : Mz), b12_wrongOnes_4 N n x1 x2 μ = some ρ → JM p l e s m args below meth c D θ A 2 3 (QMi below args s D θ A ρ) μ [(0, .ref θ.1), (1, .int x1), (2, .int x2)] [] 4 := by
  intro n
  induction n with
  | zero =>
    intro x1 x2 μ h
    exact absurd h (by simp [b12_wrongOnes_4])
  | succ n ih =>
    intro x1 x2 μ h
    rw [b12_wrongOnes_4] at h
    refine j_iload_n K 2 d12_wrongOnes_4 rfl rfl ?_
    refine j_aload_n K 0 d12_wrongOnes_5 rfl rfl ?_
    refine mg_said K d12_wrongOnes_6 ?_
    refine j_iconst (v := 3) K d12_wrongOnes_9 (by decide) ?_
    refine ml_said K (inb_e (by decide)) d12_wrongOnes_10 ?_
    refine j_icmp_ge (tgt := 38) K d12_wrongOnes_11 (by decide) (fun q => ?_) (fun q => ?_)
    · have h := if_t h q
      refine j_iload_n K 1 d12_wrongOnes_38 rfl rfl ?_
      exact mret_i K h hr hlk d12_wrongOnes_39
    · have h := if_f h q
      refine j_iload_n K 1 d12_wrongOnes_14 rfl rfl ?_
      refine j_aload_n K 0 d12_wrongOnes_15 rfl rfl ?_
      refine j_iload_n K 2 d12_wrongOnes_16 rfl rfl ?_
      obtain ⟨r1, μ1, e1, h⟩ := bd_e h
      refine mcall_i K (c12_isWrong_ok l D θ N x2 μ _ e1) mG_isWrong mh_isWrong (by decide) (by decide) rfl (st := [.int x1]) (Nat.le_of_ble_eq_true rfl) rfl d12_wrongOnes_17 ?_
      refine j_if_eq (tgt := 29) K d12_wrongOnes_20 (by decide) (fun q => ?_) (fun q => ?_)
      · have h := if_t h q
        refine j_iconst (v := 0) K d12_wrongOnes_29 (by decide) ?_
        refine j_ior K d12_wrongOnes_30 ?_
        obtain ⟨v2, e2, h⟩ := lt_e h
        refine j_eqi e2 ?_
        refine j_istore_n (lv' := [(1, .int v2), (0, .ref θ.1), (2, .int x2)]) K d12_wrongOnes_31 rfl (by decide) rfl ?_
        obtain ⟨v3, e3, h⟩ := lt_e h
        refine j_iinc (k := 2) (v := v3) (lv' := [(2, .int v3), (1, .int v2), (0, .ref θ.1)]) K d12_wrongOnes_32 rfl (by rw [e3]; rfl) (by decide) rfl ?_
        refine j_goto (tgt := 4) K d12_wrongOnes_35 (by decide) ?_
        refine j_sub [2, 1, 0] rfl ?_
        exact ih v2 v3 μ1 h
      · have h := if_f h q
        refine j_iconst (v := 1) K d12_wrongOnes_23 (by decide) ?_
        refine j_iload_n K 2 d12_wrongOnes_24 rfl rfl ?_
        refine j_ishl K d12_wrongOnes_25 ?_
        refine j_goto (tgt := 30) K d12_wrongOnes_26 (by decide) ?_
        refine j_ior K d12_wrongOnes_30 ?_
        obtain ⟨v4, e4, h⟩ := lt_e h
        refine j_eqi e4 ?_
        refine j_istore_n (lv' := [(1, .int v4), (0, .ref θ.1), (2, .int x2)]) K d12_wrongOnes_31 rfl (by decide) rfl ?_
        obtain ⟨v5, e5, h⟩ := lt_e h
        refine j_iinc (k := 2) (v := v5) (lv' := [(2, .int v5), (1, .int v4), (0, .ref θ.1)]) K d12_wrongOnes_32 rfl (by rw [e5]; rfl) (by decide) rfl ?_
        refine j_goto (tgt := 4) K d12_wrongOnes_35 (by decide) ?_
        refine j_sub [2, 1, 0] rfl ?_
        exact ih v4 v5 μ1 h
def p12_wrongOnes (N : Nat)  (μ : Mz) : Option (Int32 × Mz) := b12_wrongOnes_4 N N 0 0 μ
set_option maxHeartbeats 4000000 in
set_option maxRecDepth 100000 in
theorem c12_wrongOnes_ok (l : Launch) (D : va_G) (θ : Th) (N : Nat)  (μ : Mz) (ρ : Int32 × Mz) (h : p12_wrongOnes N  μ = some ρ) : CMi l D θ y12_wrongOnes c12_wrongOnes 3 (some .int) 2 [] μ ρ := by
  intro sz
  refine j_met l [.ref θ.1] (by decide +kernel) (Nat.le_of_ble_eq_true rfl) ?_
  intro p e s m args below meth c K hr hlk hnm hs
  generalize va_A (wM θ μ) sz = A at K ⊢
  have K : KM p s m args c c12_wrongOnes 3 y12_wrongOnes (some .int) D θ A := K
  show JM p l e s m args below meth c D θ A 2 3 (QMi below args s D θ A ρ) μ [(0, .ref θ.1)] [] 0
  unfold p12_wrongOnes at h
  refine j_iconst (v := 0) K d12_wrongOnes_0 (by decide) ?_
  refine j_istore_n (lv' := [(1, .int 0), (0, .ref θ.1)]) K d12_wrongOnes_1 rfl (by decide) rfl ?_
  refine j_iconst (v := 0) K d12_wrongOnes_2 (by decide) ?_
  refine j_istore_n (lv' := [(2, .int 0), (1, .int 0), (0, .ref θ.1)]) K d12_wrongOnes_3 rfl (by decide) rfl ?_
  refine j_sub [2, 1, 0] rfl ?_
  exact t12_wrongOnes_4 K hr hlk N ρ N 0 0 μ h
def p12_force (N : Nat) (a1 : Int32) (μ : Mz) : Option (Int32 × Mz) := if a1 = (-1) then lt (gi 11 μ) (fun v1 => lt (si 11 a1 μ) (fun μ2 => some (v1, μ2))) else bd (p12_isRule N a1 μ) (fun r3 μ3 => if r3 = 0 then some ((-2), μ3) else lt (gi 11 μ3) (fun v4 => lt (si 11 a1 μ3) (fun μ5 => some (v4, μ5))))
set_option maxHeartbeats 4000000 in
set_option maxRecDepth 100000 in
theorem c12_force_ok (l : Launch) (D : va_G) (θ : Th) (N : Nat) (a1 : Int32) (μ : Mz) (ρ : Int32 × Mz) (h : p12_force N a1 μ = some ρ) : CMi l D θ y12_force c12_force 3 (some .int) 2 [.int a1] μ ρ := by
  intro sz
  refine j_met l [.ref θ.1, .int a1] (by decide +kernel) (Nat.le_of_ble_eq_true rfl) ?_
  intro p e s m args below meth c K hr hlk hnm hs
  generalize va_A (wM θ μ) sz = A at K ⊢
  have K : KM p s m args c c12_force 3 y12_force (some .int) D θ A := K
  show JM p l e s m args below meth c D θ A 2 3 (QMi below args s D θ A ρ) μ [(0, .ref θ.1), (1, .int a1)] [] 0
  unfold p12_force at h
  refine j_iload_n K 1 d12_force_0 rfl rfl ?_
  refine j_iconst (v := (-1)) K d12_force_1 (by decide) ?_
  refine j_icmp_eq (tgt := 16) K d12_force_2 (by decide) (fun q => ?_) (fun q => ?_)
  · have h := if_t h q
    refine j_aload_n K 0 d12_force_16 rfl rfl ?_
    refine mg_force K d12_force_17 ?_
    obtain ⟨v1, e1, h⟩ := lt_e h
    refine j_eqi e1 ?_
    refine j_istore_n (lv' := [(2, .int v1), (0, .ref θ.1), (1, .int a1)]) K d12_force_20 rfl (by decide) rfl ?_
    refine j_aload_n K 1 d12_force_21 rfl rfl ?_
    refine j_iload_n K 2 d12_force_22 rfl rfl ?_
    obtain ⟨μ2, e2, h⟩ := lt_e h
    refine mp_force K d12_force_23 e2 ?_
    refine j_iload_n K 0 d12_force_26 rfl rfl ?_
    exact mret_i K h hr hlk d12_force_27
  · have h := if_f h q
    refine j_aload_n K 0 d12_force_5 rfl rfl ?_
    refine j_iload_n K 1 d12_force_6 rfl rfl ?_
    obtain ⟨r3, μ3, e3, h⟩ := bd_e h
    refine mcall_i K (c12_isRule_ok l D θ N a1 μ _ e3) mG_isRule mh_isRule (by decide) (by decide) rfl (st := []) (Nat.le_of_ble_eq_true rfl) rfl d12_force_7 ?_
    refine j_if_ne (tgt := 16) K d12_force_10 (by decide) (fun q => ?_) (fun q => ?_)
    · have h := if_f h q
      refine j_aload_n K 0 d12_force_16 rfl rfl ?_
      refine mg_force K d12_force_17 ?_
      obtain ⟨v4, e4, h⟩ := lt_e h
      refine j_eqi e4 ?_
      refine j_istore_n (lv' := [(2, .int v4), (0, .ref θ.1), (1, .int a1)]) K d12_force_20 rfl (by decide) rfl ?_
      refine j_aload_n K 1 d12_force_21 rfl rfl ?_
      refine j_iload_n K 2 d12_force_22 rfl rfl ?_
      obtain ⟨μ5, e5, h⟩ := lt_e h
      refine mp_force K d12_force_23 e5 ?_
      refine j_iload_n K 0 d12_force_26 rfl rfl ?_
      exact mret_i K h hr hlk d12_force_27
    · have h := if_t h q
      refine j_bipush (v := (-2)) K d12_force_13 (by decide) ?_
      exact mret_i K h hr hlk d12_force_15
def p12_letter (N : Nat) (a1 : Int32) (a2 : Int32) (μ : Mz) : Option (Int32 × Mz) := bd (p12_isInBook N a1 μ) (fun r1 μ1 => if r1 = 0 then some ((-1), μ1) else if a2.toInt < 0 ∨ 3 < a2.toInt then some ((-1), μ1) else if a2 = 0 then lt (13 + a1) (fun v2 => ck (inb v2 129) (some (ga 7 μ1 v2.toNatClampNeg, μ1))) else if a2 = 1 then lt (43 + a1) (fun v4 => ck (inb v4 129) (some (ga 7 μ1 v4.toNatClampNeg, μ1))) else if a2 = 2 then lt (23 + a1) (fun v6 => ck (inb v6 129) (some (ga 7 μ1 v6.toNatClampNeg, μ1))) else if a2 = 3 then lt (33 + a1) (fun v8 => ck (inb v8 129) (some (ga 7 μ1 v8.toNatClampNeg, μ1))) else none)
set_option maxHeartbeats 4000000 in
set_option maxRecDepth 100000 in
theorem c12_letter_ok (l : Launch) (D : va_G) (θ : Th) (N : Nat) (a1 : Int32) (a2 : Int32) (μ : Mz) (ρ : Int32 × Mz) (h : p12_letter N a1 a2 μ = some ρ) : CMi l D θ y12_letter c12_letter 3 (some .int) 2 [.int a1, .int a2] μ ρ := by
  intro sz
  refine j_met l [.ref θ.1, .int a1, .int a2] (by decide +kernel) (Nat.le_of_ble_eq_true rfl) ?_
  intro p e s m args below meth c K hr hlk hnm hs
  generalize va_A (wM θ μ) sz = A at K ⊢
  have K : KM p s m args c c12_letter 3 y12_letter (some .int) D θ A := K
  show JM p l e s m args below meth c D θ A 2 3 (QMi below args s D θ A ρ) μ [(0, .ref θ.1), (1, .int a1), (2, .int a2)] [] 0
  unfold p12_letter at h
  refine j_aload_n K 0 d12_letter_0 rfl rfl ?_
  refine j_iload_n K 1 d12_letter_1 rfl rfl ?_
  obtain ⟨r1, μ1, e1, h⟩ := bd_e h
  refine mcall_i K (c12_isInBook_ok l D θ N a1 μ _ e1) mG_isInBook mh_isInBook (by decide) (by decide) rfl (st := []) (Nat.le_of_ble_eq_true rfl) rfl d12_letter_2 ?_
  refine j_if_ne (tgt := 10) K d12_letter_5 (by decide) (fun q => ?_) (fun q => ?_)
  · have h := if_f h q
    refine j_iload_n K 2 d12_letter_10 rfl rfl ?_
    by_cases q : a2.toInt < 0 ∨ 3 < a2.toInt
    · have h := if_t h q
      refine j_tabOut (tgt := 80) K d12_letter_11 q (by decide) ?_
      refine j_iconst (v := (-1)) K d12_letter_80 (by decide) ?_
      exact mret_i K h hr hlk d12_letter_81
    · have h := if_f h q
      by_cases q : a2 = 0
      · have h := if_t h q
        have q1 : a2.toInt = 0 := by rw [q]; decide
        refine j_tabIn (tgt := 40) K d12_letter_11 (by rw [q1]; decide) (by rw [q1]; decide) (by rw [q1]; rfl) (by decide) ?_
        refine j_aload_n K 0 d12_letter_40 rfl rfl ?_
        refine mg_said K d12_letter_41 ?_
        refine j_bipush (v := 13) K d12_letter_44 (by decide) ?_
        refine j_iload_n K 1 d12_letter_46 rfl rfl ?_
        refine j_iadd K d12_letter_47 ?_
        obtain ⟨v2, e2, h⟩ := lt_e h
        refine j_eqi e2 ?_
        obtain ⟨q3, h⟩ := ck_e h
        refine ml_said K (inb_e q3) d12_letter_48 ?_
        exact mret_i K h hr hlk d12_letter_49
      have h := if_f h q
      by_cases q : a2 = 1
      · have h := if_t h q
        have q1 : a2.toInt = 1 := by rw [q]; decide
        refine j_tabIn (tgt := 50) K d12_letter_11 (by rw [q1]; decide) (by rw [q1]; decide) (by rw [q1]; rfl) (by decide) ?_
        refine j_aload_n K 0 d12_letter_50 rfl rfl ?_
        refine mg_said K d12_letter_51 ?_
        refine j_bipush (v := 43) K d12_letter_54 (by decide) ?_
        refine j_iload_n K 1 d12_letter_56 rfl rfl ?_
        refine j_iadd K d12_letter_57 ?_
        obtain ⟨v4, e4, h⟩ := lt_e h
        refine j_eqi e4 ?_
        obtain ⟨q5, h⟩ := ck_e h
        refine ml_said K (inb_e q5) d12_letter_58 ?_
        exact mret_i K h hr hlk d12_letter_59
      have h := if_f h q
      by_cases q : a2 = 2
      · have h := if_t h q
        have q1 : a2.toInt = 2 := by rw [q]; decide
        refine j_tabIn (tgt := 60) K d12_letter_11 (by rw [q1]; decide) (by rw [q1]; decide) (by rw [q1]; rfl) (by decide) ?_
        refine j_aload_n K 0 d12_letter_60 rfl rfl ?_
        refine mg_said K d12_letter_61 ?_
        refine j_bipush (v := 23) K d12_letter_64 (by decide) ?_
        refine j_iload_n K 1 d12_letter_66 rfl rfl ?_
        refine j_iadd K d12_letter_67 ?_
        obtain ⟨v6, e6, h⟩ := lt_e h
        refine j_eqi e6 ?_
        obtain ⟨q7, h⟩ := ck_e h
        refine ml_said K (inb_e q7) d12_letter_68 ?_
        exact mret_i K h hr hlk d12_letter_69
      have h := if_f h q
      by_cases q : a2 = 3
      · have h := if_t h q
        have q1 : a2.toInt = 3 := by rw [q]; decide
        refine j_tabIn (tgt := 70) K d12_letter_11 (by rw [q1]; decide) (by rw [q1]; decide) (by rw [q1]; rfl) (by decide) ?_
        refine j_aload_n K 0 d12_letter_70 rfl rfl ?_
        refine mg_said K d12_letter_71 ?_
        refine j_bipush (v := 33) K d12_letter_74 (by decide) ?_
        refine j_iload_n K 1 d12_letter_76 rfl rfl ?_
        refine j_iadd K d12_letter_77 ?_
        obtain ⟨v8, e8, h⟩ := lt_e h
        refine j_eqi e8 ?_
        obtain ⟨q9, h⟩ := ck_e h
        refine ml_said K (inb_e q9) d12_letter_78 ?_
        exact mret_i K h hr hlk d12_letter_79
      have h := if_f h q
      exact absurd h (by simp)
  · have h := if_t h q
    refine j_iconst (v := (-1)) K d12_letter_8 (by decide) ?_
    exact mret_i K h hr hlk d12_letter_9
def b12_pays_132 (N : Nat) (k12 : Int32 → Mz → Option (Mz)) (x1 : Int32) (μ : Mz) : Option (Mz) := lt (si 14 ((gi 14 μ) ||| ((1 : Int32) <<< (x1 &&& 31))) μ) (fun μ4 => lt (x1 + 1) (fun v5 => k12 v5 μ4))
set_option maxHeartbeats 4000000 in
set_option maxRecDepth 100000 in
theorem t12_pays_132 {p : Program} {l : Launch} {e : Env} {s : State} {m : MethodId} {args : Array Value} {below : List Frame} {meth : Method} {c : Code} {D : va_G} {θ : Th} {A : Nat → Prop} (K : KM p s m args c c12_pays 2 y12_pays none D θ A) (hr : meth.sig.returnType = none) (hlk : meth.locks = false) (N : Nat) (ρ : Mz) (k12 : Int32 → Mz → Option (Mz)) (hk12 : ∀ (x1 : Int32) (μ : Mz), k12 x1 μ = some ρ → JM p l e s m args below meth c D θ A 2 2 (QMv below args s D θ A ρ) μ [(0, .ref θ.1), (1, .int x1)] [] 12) (x1 : Int32) (μ : Mz) (h : b12_pays_132 N k12 x1 μ = some ρ) : JM p l e s m args below meth c D θ A 2 2 (QMv below args s D θ A ρ) μ [(0, .ref θ.1), (1, .int x1)] [] 132 := by
  unfold b12_pays_132 at h
  refine j_aload_n K 0 d12_pays_132 rfl rfl ?_
  refine j_dup K d12_pays_133 rfl ?_
  refine mg_owedFor K d12_pays_134 ?_
  refine j_iconst (v := 1) K d12_pays_137 (by decide) ?_
  refine j_iload_n K 1 d12_pays_138 rfl rfl ?_
  refine j_ishl K d12_pays_139 ?_
  refine j_ior K d12_pays_140 ?_
  obtain ⟨μ4, e4, h⟩ := lt_e h
  refine mp_owedFor K d12_pays_141 e4 ?_
  obtain ⟨v5, e5, h⟩ := lt_e h
  refine j_iinc (k := 1) (v := v5) (lv' := [(1, .int v5), (0, .ref θ.1)]) K d12_pays_144 rfl (by rw [e5]; rfl) (by decide) rfl ?_
  refine j_goto (tgt := 12) K d12_pays_147 (by decide) ?_
  refine j_sub [1, 0] rfl ?_
  exact hk12 v5 μ4 h
def b12_pays_93 (N : Nat) (k12 : Int32 → Mz → Option (Mz)) (x1 : Int32) (μ : Mz) : Option (Mz) := lt (si 15 ((gi 15 μ) ||| ((1 : Int32) <<< (x1 &&& 31))) μ) (fun μ12 => lt (x1 + 1) (fun v13 => k12 v13 μ12))
set_option maxHeartbeats 4000000 in
set_option maxRecDepth 100000 in
theorem t12_pays_93 {p : Program} {l : Launch} {e : Env} {s : State} {m : MethodId} {args : Array Value} {below : List Frame} {meth : Method} {c : Code} {D : va_G} {θ : Th} {A : Nat → Prop} (K : KM p s m args c c12_pays 2 y12_pays none D θ A) (hr : meth.sig.returnType = none) (hlk : meth.locks = false) (N : Nat) (ρ : Mz) (k12 : Int32 → Mz → Option (Mz)) (hk12 : ∀ (x1 : Int32) (μ : Mz), k12 x1 μ = some ρ → JM p l e s m args below meth c D θ A 2 2 (QMv below args s D θ A ρ) μ [(0, .ref θ.1), (1, .int x1)] [] 12) (x1 : Int32) (μ : Mz) (h : b12_pays_93 N k12 x1 μ = some ρ) : JM p l e s m args below meth c D θ A 2 2 (QMv below args s D θ A ρ) μ [(0, .ref θ.1), (1, .int x1)] [] 93 := by
  unfold b12_pays_93 at h
  refine j_aload_n K 0 d12_pays_93 rfl rfl ?_
  refine j_dup K d12_pays_94 rfl ?_
  refine mg_paidTo K d12_pays_95 ?_
  refine j_iconst (v := 1) K d12_pays_98 (by decide) ?_
  refine j_iload_n K 1 d12_pays_99 rfl rfl ?_
  refine j_ishl K d12_pays_100 ?_
  refine j_ior K d12_pays_101 ?_
  obtain ⟨μ12, e12, h⟩ := lt_e h
  refine mp_paidTo K d12_pays_102 e12 ?_
  refine j_goto (tgt := 144) K d12_pays_105 (by decide) ?_
  obtain ⟨v13, e13, h⟩ := lt_e h
  refine j_iinc (k := 1) (v := v13) (lv' := [(1, .int v13), (0, .ref θ.1)]) K d12_pays_144 rfl (by rw [e13]; rfl) (by decide) rfl ?_
  refine j_goto (tgt := 12) K d12_pays_147 (by decide) ?_
  refine j_sub [1, 0] rfl ?_
  exact hk12 v13 μ12 h
def b12_pays_12 (N : Nat) : Nat → Int32 → Mz → Option (Mz)
  | 0, _, _ => none
  | n + 1, x1, μ => if (ga 7 μ (3 : Int32).toNatClampNeg) ≤ x1 then some μ else bd (p12_isWrong N x1 μ) (fun r3 μ3 => if r3 = 0 then lt (x1 + 1) (fun v19 => b12_pays_12 N n v19 μ3) else if (ga 7 μ3 (11 : Int32).toNatClampNeg) < (ga 7 μ3 (1 : Int32).toNatClampNeg) then if 999 ≤ (ga 7 μ3 (12 : Int32).toNatClampNeg) then b12_pays_132 N (b12_pays_12 N n) x1 μ3 else lt ((ga 7 μ3 (12 : Int32).toNatClampNeg) + 1) (fun v6 => lt (sa 7 (upd (ga 7 μ3) (12 : Int32).toNatClampNeg v6) μ3) (fun μ7 => b12_pays_132 N (b12_pays_12 N n) x1 μ7)) else lt ((ga 7 μ3 (11 : Int32).toNatClampNeg) - (ga 7 μ3 (1 : Int32).toNatClampNeg)) (fun v8 => lt (sa 7 (upd (ga 7 μ3) (11 : Int32).toNatClampNeg v8) μ3) (fun μ9 => lt (23 + x1) (fun v10 => ck (inb v10 129) (if 999 ≤ (ga 7 μ9 v10.toNatClampNeg) then b12_pays_93 N (b12_pays_12 N n) x1 μ9 else lt (23 + x1) (fun v14 => ck (inb v14 129) (lt ((ga 7 μ9 v14.toNatClampNeg) + 1) (fun v16 => ck (inb v14 129) (lt (sa 7 (upd (ga 7 μ9) v14.toNatClampNeg v16) μ9) (fun μ18 => b12_pays_93 N (b12_pays_12 N n) x1 μ18))))))))))
set_option maxHeartbeats 4000000 in
set_option maxRecDepth 100000 in
theorem t12_pays_12 {p : Program} {l : Launch} {e : Env} {s : State} {m : MethodId} {args : Array Value} {below : List Frame} {meth : Method} {c : Code} {D : va_G} {θ : Th} {A : Nat → Prop} (K : KM p s m args c c12_pays 2 y12_pays none D θ A) (hr : meth.sig.returnType = none) (hlk : meth.locks = false) (N : Nat) (ρ : Mz) : ∀ (n : Nat) (x1 : Int32) (μ : Mz), b12_pays_12 N n x1 μ = some ρ → JM p l e s m args below meth c D θ A 2 2 (QMv below args s D θ A ρ) μ [(0, .ref θ.1), (1, .int x1)] [] 12 := by
  intro n
  induction n with
  | zero =>
    intro x1 μ h
    exact absurd h (by simp [b12_pays_12])
  | succ n ih =>
    intro x1 μ h
    rw [b12_pays_12] at h
    refine j_iload_n K 1 d12_pays_12 rfl rfl ?_
    refine j_aload_n K 0 d12_pays_13 rfl rfl ?_
    refine mg_said K d12_pays_14 ?_
    refine j_iconst (v := 3) K d12_pays_17 (by decide) ?_
    refine ml_said K (inb_e (by decide)) d12_pays_18 ?_
    refine j_icmp_ge (tgt := 150) K d12_pays_19 (by decide) (fun q => ?_) (fun q => ?_)
    · have h := if_t h q
      exact mret_v K h hr hlk d12_pays_150
    · have h := if_f h q
      refine j_aload_n K 0 d12_pays_22 rfl rfl ?_
      refine j_iload_n K 1 d12_pays_23 rfl rfl ?_
      obtain ⟨r3, μ3, e3, h⟩ := bd_e h
      refine mcall_i K (c12_isWrong_ok l D θ N x1 μ _ e3) mG_isWrong mh_isWrong (by decide) (by decide) rfl (st := []) (Nat.le_of_ble_eq_true rfl) rfl d12_pays_24 ?_
      refine j_if_ne (tgt := 33) K d12_pays_27 (by decide) (fun q => ?_) (fun q => ?_)
      · have h := if_f h q
        refine j_aload_n K 0 d12_pays_33 rfl rfl ?_
        refine mg_said K d12_pays_34 ?_
        refine j_bipush (v := 11) K d12_pays_37 (by decide) ?_
        refine ml_said K (inb_e (by decide)) d12_pays_39 ?_
        refine j_aload_n K 0 d12_pays_40 rfl rfl ?_
        refine mg_said K d12_pays_41 ?_
        refine j_iconst (v := 1) K d12_pays_44 (by decide) ?_
        refine ml_said K (inb_e (by decide)) d12_pays_45 ?_
        refine j_icmp_lt (tgt := 108) K d12_pays_46 (by decide) (fun q => ?_) (fun q => ?_)
        · have h := if_t h q
          refine j_aload_n K 0 d12_pays_108 rfl rfl ?_
          refine mg_said K d12_pays_109 ?_
          refine j_bipush (v := 12) K d12_pays_112 (by decide) ?_
          refine ml_said K (inb_e (by decide)) d12_pays_114 ?_
          refine j_sipush (v := 999) K d12_pays_115 (by decide) ?_
          refine j_icmp_ge (tgt := 132) K d12_pays_118 (by decide) (fun q => ?_) (fun q => ?_)
          · have h := if_t h q
            exact t12_pays_132 K hr hlk N ρ (b12_pays_12 N n) ih x1 μ3 h
          · have h := if_f h q
            refine j_aload_n K 0 d12_pays_121 rfl rfl ?_
            refine mg_said K d12_pays_122 ?_
            refine j_bipush (v := 12) K d12_pays_125 (by decide) ?_
            refine j_dup2 K d12_pays_127 rfl rfl ?_
            refine ml_said K (inb_e (by decide)) d12_pays_128 ?_
            refine j_iconst (v := 1) K d12_pays_129 (by decide) ?_
            refine j_iadd K d12_pays_130 ?_
            obtain ⟨v6, e6, h⟩ := lt_e h
            refine j_eqi e6 ?_
            obtain ⟨μ7, e7, h⟩ := lt_e h
            refine ms_said K (inb_e (by decide)) d12_pays_131 e7 ?_
            exact t12_pays_132 K hr hlk N ρ (b12_pays_12 N n) ih x1 μ7 h
        · have h := if_f h q
          refine j_aload_n K 0 d12_pays_49 rfl rfl ?_
          refine mg_said K d12_pays_50 ?_
          refine j_bipush (v := 11) K d12_pays_53 (by decide) ?_
          refine j_dup2 K d12_pays_55 rfl rfl ?_
          refine ml_said K (inb_e (by decide)) d12_pays_56 ?_
          refine j_aload_n K 0 d12_pays_57 rfl rfl ?_
          refine mg_said K d12_pays_58 ?_
          refine j_iconst (v := 1) K d12_pays_61 (by decide) ?_
          refine ml_said K (inb_e (by decide)) d12_pays_62 ?_
          refine j_isub K d12_pays_63 ?_
          obtain ⟨v8, e8, h⟩ := lt_e h
          refine j_eqi e8 ?_
          obtain ⟨μ9, e9, h⟩ := lt_e h
          refine ms_said K (inb_e (by decide)) d12_pays_64 e9 ?_
          refine j_aload_n K 0 d12_pays_65 rfl rfl ?_
          refine mg_said K d12_pays_66 ?_
          refine j_bipush (v := 23) K d12_pays_69 (by decide) ?_
          refine j_iload_n K 1 d12_pays_71 rfl rfl ?_
          refine j_iadd K d12_pays_72 ?_
          obtain ⟨v10, e10, h⟩ := lt_e h
          refine j_eqi e10 ?_
          obtain ⟨q11, h⟩ := ck_e h
          refine ml_said K (inb_e q11) d12_pays_73 ?_
          refine j_sipush (v := 999) K d12_pays_74 (by decide) ?_
          refine j_icmp_ge (tgt := 93) K d12_pays_77 (by decide) (fun q => ?_) (fun q => ?_)
          · have h := if_t h q
            exact t12_pays_93 K hr hlk N ρ (b12_pays_12 N n) ih x1 μ9 h
          · have h := if_f h q
            refine j_aload_n K 0 d12_pays_80 rfl rfl ?_
            refine mg_said K d12_pays_81 ?_
            refine j_bipush (v := 23) K d12_pays_84 (by decide) ?_
            refine j_iload_n K 1 d12_pays_86 rfl rfl ?_
            refine j_iadd K d12_pays_87 ?_
            obtain ⟨v14, e14, h⟩ := lt_e h
            refine j_eqi e14 ?_
            refine j_dup2 K d12_pays_88 rfl rfl ?_
            obtain ⟨q15, h⟩ := ck_e h
            refine ml_said K (inb_e q15) d12_pays_89 ?_
            refine j_iconst (v := 1) K d12_pays_90 (by decide) ?_
            refine j_iadd K d12_pays_91 ?_
            obtain ⟨v16, e16, h⟩ := lt_e h
            refine j_eqi e16 ?_
            obtain ⟨q17, h⟩ := ck_e h
            obtain ⟨μ18, e18, h⟩ := lt_e h
            refine ms_said K (inb_e q17) d12_pays_92 e18 ?_
            exact t12_pays_93 K hr hlk N ρ (b12_pays_12 N n) ih x1 μ18 h
      · have h := if_t h q
        refine j_goto (tgt := 144) K d12_pays_30 (by decide) ?_
        obtain ⟨v19, e19, h⟩ := lt_e h
        refine j_iinc (k := 1) (v := v19) (lv' := [(1, .int v19), (0, .ref θ.1)]) K d12_pays_144 rfl (by rw [e19]; rfl) (by decide) rfl ?_
        refine j_goto (tgt := 12) K d12_pays_147 (by decide) ?_
        refine j_sub [1, 0] rfl ?_
        exact ih v19 μ3 h
def p12_pays (N : Nat)  (μ : Mz) : Option (Mz) := lt (si 14 0 μ) (fun μ1 => lt (si 15 0 μ1) (fun μ2 => b12_pays_12 N N 0 μ2))
set_option maxHeartbeats 4000000 in
set_option maxRecDepth 100000 in
theorem c12_pays_ok (l : Launch) (D : va_G) (θ : Th) (N : Nat)  (μ : Mz) (ρ : Mz) (h : p12_pays N  μ = some ρ) : CMv l D θ y12_pays c12_pays 2 none 2 [] μ ρ := by
  intro sz
  refine j_met l [.ref θ.1] (by decide +kernel) (Nat.le_of_ble_eq_true rfl) ?_
  intro p e s m args below meth c K hr hlk hnm hs
  generalize va_A (wM θ μ) sz = A at K ⊢
  have K : KM p s m args c c12_pays 2 y12_pays none D θ A := K
  show JM p l e s m args below meth c D θ A 2 2 (QMv below args s D θ A ρ) μ [(0, .ref θ.1)] [] 0
  unfold p12_pays at h
  refine j_aload_n K 0 d12_pays_0 rfl rfl ?_
  refine j_iconst (v := 0) K d12_pays_1 (by decide) ?_
  obtain ⟨μ1, e1, h⟩ := lt_e h
  refine mp_owedFor K d12_pays_2 e1 ?_
  refine j_aload_n K 0 d12_pays_5 rfl rfl ?_
  refine j_iconst (v := 0) K d12_pays_6 (by decide) ?_
  obtain ⟨μ2, e2, h⟩ := lt_e h
  refine mp_paidTo K d12_pays_7 e2 ?_
  refine j_iconst (v := 0) K d12_pays_10 (by decide) ?_
  refine j_istore_n (lv' := [(1, .int 0), (0, .ref θ.1)]) K d12_pays_11 rfl (by decide) rfl ?_
  refine j_sub [1, 0] rfl ?_
  exact t12_pays_12 K hr hlk N ρ N 0 μ2 h
def p12_set (N : Nat) (a1 : Int32) (a2 : Int32) (μ : Mz) : Option (Int32 × Mz) := bd (p12_isInBook N a1 μ) (fun r1 μ1 => if r1 = 0 then some ((-1), μ1) else bo (p12_in N (a2.toInt64) 0 7) (fun r2 => if r2 = 0 then some ((-1), μ1) else lt (13 + a1) (fun v3 => ck (inb v3 129) (if (ga 7 μ1 v3.toNatClampNeg) = a2 then some ((-1), μ1) else bo (p12_keepsAct N  μ1) (fun μ5 => lt (13 + a1) (fun v6 => ck (inb v6 129) (lt (ga 7 μ5 v6.toNatClampNeg) (fun v8 => ck (inb (13 + a1) 129) (lt (sa 7 (upd (ga 7 μ5) (13 + a1).toNatClampNeg a2) μ5) (fun μ10 => some (v8, μ10)))))))))))
set_option maxHeartbeats 4000000 in
set_option maxRecDepth 100000 in
theorem c12_set_ok (l : Launch) (D : va_G) (θ : Th) (N : Nat) (a1 : Int32) (a2 : Int32) (μ : Mz) (ρ : Int32 × Mz) (h : p12_set N a1 a2 μ = some ρ) : CMi l D θ y12_set c12_set 4 (some .int) 2 [.int a1, .int a2] μ ρ := by
  intro sz
  refine j_met l [.ref θ.1, .int a1, .int a2] (by decide +kernel) (Nat.le_of_ble_eq_true rfl) ?_
  intro p e s m args below meth c K hr hlk hnm hs
  generalize va_A (wM θ μ) sz = A at K ⊢
  have K : KM p s m args c c12_set 4 y12_set (some .int) D θ A := K
  show JM p l e s m args below meth c D θ A 2 4 (QMi below args s D θ A ρ) μ [(0, .ref θ.1), (1, .int a1), (2, .int a2)] [] 0
  unfold p12_set at h
  refine j_aload_n K 0 d12_set_0 rfl rfl ?_
  refine j_iload_n K 1 d12_set_1 rfl rfl ?_
  obtain ⟨r1, μ1, e1, h⟩ := bd_e h
  refine mcall_i K (c12_isInBook_ok l D θ N a1 μ _ e1) mG_isInBook mh_isInBook (by decide) (by decide) rfl (st := []) (Nat.le_of_ble_eq_true rfl) rfl d12_set_2 ?_
  refine j_if_eq (tgt := 33) K d12_set_5 (by decide) (fun q => ?_) (fun q => ?_)
  · have h := if_t h q
    refine j_iconst (v := (-1)) K d12_set_33 (by decide) ?_
    exact mret_i K h hr hlk d12_set_34
  · have h := if_f h q
    refine j_iload_n K 2 d12_set_8 rfl rfl ?_
    refine j_i2l K d12_set_9 ?_
    refine j_lconst (v := 0) K d12_set_10 (by decide) ?_
    refine j_ldc2 (v := 7) K (List.mem_cons_of_mem _ mk12_364) d12_set_11 ?_
    obtain ⟨r2, e2, h⟩ := bo_e h
    refine mcalls_i K (c12_in_ok l D θ N (a2.toInt64) 0 7 _ e2) mG_in mh_in (by decide) (by decide) rfl (st := []) (Nat.le_of_ble_eq_true rfl) rfl d12_set_14 ?_
    refine j_if_eq (tgt := 33) K d12_set_17 (by decide) (fun q => ?_) (fun q => ?_)
    · have h := if_t h q
      refine j_iconst (v := (-1)) K d12_set_33 (by decide) ?_
      exact mret_i K h hr hlk d12_set_34
    · have h := if_f h q
      refine j_aload_n K 0 d12_set_20 rfl rfl ?_
      refine mg_said K d12_set_21 ?_
      refine j_bipush (v := 13) K d12_set_24 (by decide) ?_
      refine j_iload_n K 1 d12_set_26 rfl rfl ?_
      refine j_iadd K d12_set_27 ?_
      obtain ⟨v3, e3, h⟩ := lt_e h
      refine j_eqi e3 ?_
      obtain ⟨q4, h⟩ := ck_e h
      refine ml_said K (inb_e q4) d12_set_28 ?_
      refine j_iload_n K 2 d12_set_29 rfl rfl ?_
      refine j_icmp_ne (tgt := 35) K d12_set_30 (by decide) (fun q => ?_) (fun q => ?_)
      · have h := if_f h q
        refine j_aload_n K 0 d12_set_35 rfl rfl ?_
        obtain ⟨μ5, e5, h⟩ := bo_e h
        refine mcall_v K (c12_keepsAct_ok l D θ N  μ1 _ e5) mG_keepsAct mh_keepsAct (by decide) (by decide) rfl (st := []) (Nat.le_of_ble_eq_true rfl) rfl d12_set_36 ?_
        refine j_aload_n K 0 d12_set_39 rfl rfl ?_
        refine mg_said K d12_set_40 ?_
        refine j_bipush (v := 13) K d12_set_43 (by decide) ?_
        refine j_iload_n K 1 d12_set_45 rfl rfl ?_
        refine j_iadd K d12_set_46 ?_
        obtain ⟨v6, e6, h⟩ := lt_e h
        refine j_eqi e6 ?_
        obtain ⟨q7, h⟩ := ck_e h
        refine ml_said K (inb_e q7) d12_set_47 ?_
        obtain ⟨v8, e8, h⟩ := lt_e h
        refine j_eqi e8 ?_
        refine j_istore_n (lv' := [(3, .int v8), (0, .ref θ.1), (1, .int a1), (2, .int a2)]) K d12_set_48 rfl (by decide) rfl ?_
        refine j_aload_n K 1 d12_set_49 rfl rfl ?_
        refine mg_said K d12_set_50 ?_
        refine j_bipush (v := 13) K d12_set_53 (by decide) ?_
        refine j_iload_n K 2 d12_set_55 rfl rfl ?_
        refine j_iadd K d12_set_56 ?_
        refine j_iload_n K 3 d12_set_57 rfl rfl ?_
        obtain ⟨q9, h⟩ := ck_e h
        obtain ⟨μ10, e10, h⟩ := lt_e h
        refine ms_said K (inb_e q9) d12_set_58 e10 ?_
        refine j_iload_n K 0 d12_set_59 rfl rfl ?_
        exact mret_i K h hr hlk d12_set_60
      · have h := if_t h q
        refine j_iconst (v := (-1)) K d12_set_33 (by decide) ?_
        exact mret_i K h hr hlk d12_set_34
def p12_hang (N : Nat) (a1 : Int32) (a2 : Int32) (μ : Mz) : Option (Int32 × Mz) := bd (p12_isInBook N a1 μ) (fun r1 μ1 => if r1 = 0 then some ((-1), μ1) else bd (p12_isInBook N a2 μ1) (fun r2 μ2 => if r2 = 0 then some ((-1), μ2) else if a1 = a2 then some ((-1), μ2) else bo (p12_keepsAct N  μ2) (fun μ3 => lt (33 + a1) (fun v4 => ck (inb v4 129) (lt ((ga 7 μ3 v4.toNatClampNeg) ^^^ ((1 : Int32) <<< (a2 &&& 31))) (fun v6 => ck (inb v4 129) (lt (sa 7 (upd (ga 7 μ3) v4.toNatClampNeg v6) μ3) (fun μ8 => lt (33 + a1) (fun v9 => ck (inb v9 129) (some (((ga 7 μ8 v9.toNatClampNeg) >>> (a2 &&& 31)) &&& 1, μ8)))))))))))
set_option maxHeartbeats 4000000 in
set_option maxRecDepth 100000 in
theorem c12_hang_ok (l : Launch) (D : va_G) (θ : Th) (N : Nat) (a1 : Int32) (a2 : Int32) (μ : Mz) (ρ : Int32 × Mz) (h : p12_hang N a1 a2 μ = some ρ) : CMi l D θ y12_hang c12_hang 3 (some .int) 2 [.int a1, .int a2] μ ρ := by
  intro sz
  refine j_met l [.ref θ.1, .int a1, .int a2] (by decide +kernel) (Nat.le_of_ble_eq_true rfl) ?_
  intro p e s m args below meth c K hr hlk hnm hs
  generalize va_A (wM θ μ) sz = A at K ⊢
  have K : KM p s m args c c12_hang 3 y12_hang (some .int) D θ A := K
  show JM p l e s m args below meth c D θ A 2 3 (QMi below args s D θ A ρ) μ [(0, .ref θ.1), (1, .int a1), (2, .int a2)] [] 0
  unfold p12_hang at h
  refine j_aload_n K 0 d12_hang_0 rfl rfl ?_
  refine j_iload_n K 1 d12_hang_1 rfl rfl ?_
  obtain ⟨r1, μ1, e1, h⟩ := bd_e h
  refine mcall_i K (c12_isInBook_ok l D θ N a1 μ _ e1) mG_isInBook mh_isInBook (by decide) (by decide) rfl (st := []) (Nat.le_of_ble_eq_true rfl) rfl d12_hang_2 ?_
  refine j_if_eq (tgt := 21) K d12_hang_5 (by decide) (fun q => ?_) (fun q => ?_)
  · have h := if_t h q
    refine j_iconst (v := (-1)) K d12_hang_21 (by decide) ?_
    exact mret_i K h hr hlk d12_hang_22
  · have h := if_f h q
    refine j_aload_n K 0 d12_hang_8 rfl rfl ?_
    refine j_iload_n K 2 d12_hang_9 rfl rfl ?_
    obtain ⟨r2, μ2, e2, h⟩ := bd_e h
    refine mcall_i K (c12_isInBook_ok l D θ N a2 μ1 _ e2) mG_isInBook mh_isInBook (by decide) (by decide) rfl (st := []) (Nat.le_of_ble_eq_true rfl) rfl d12_hang_10 ?_
    refine j_if_eq (tgt := 21) K d12_hang_13 (by decide) (fun q => ?_) (fun q => ?_)
    · have h := if_t h q
      refine j_iconst (v := (-1)) K d12_hang_21 (by decide) ?_
      exact mret_i K h hr hlk d12_hang_22
    · have h := if_f h q
      refine j_iload_n K 1 d12_hang_16 rfl rfl ?_
      refine j_iload_n K 2 d12_hang_17 rfl rfl ?_
      refine j_icmp_ne (tgt := 23) K d12_hang_18 (by decide) (fun q => ?_) (fun q => ?_)
      · have h := if_f h q
        refine j_aload_n K 0 d12_hang_23 rfl rfl ?_
        obtain ⟨μ3, e3, h⟩ := bo_e h
        refine mcall_v K (c12_keepsAct_ok l D θ N  μ2 _ e3) mG_keepsAct mh_keepsAct (by decide) (by decide) rfl (st := []) (Nat.le_of_ble_eq_true rfl) rfl d12_hang_24 ?_
        refine j_aload_n K 0 d12_hang_27 rfl rfl ?_
        refine mg_said K d12_hang_28 ?_
        refine j_bipush (v := 33) K d12_hang_31 (by decide) ?_
        refine j_iload_n K 1 d12_hang_33 rfl rfl ?_
        refine j_iadd K d12_hang_34 ?_
        obtain ⟨v4, e4, h⟩ := lt_e h
        refine j_eqi e4 ?_
        refine j_dup2 K d12_hang_35 rfl rfl ?_
        obtain ⟨q5, h⟩ := ck_e h
        refine ml_said K (inb_e q5) d12_hang_36 ?_
        refine j_iconst (v := 1) K d12_hang_37 (by decide) ?_
        refine j_iload_n K 2 d12_hang_38 rfl rfl ?_
        refine j_ishl K d12_hang_39 ?_
        refine j_ixor K d12_hang_40 ?_
        obtain ⟨v6, e6, h⟩ := lt_e h
        refine j_eqi e6 ?_
        obtain ⟨q7, h⟩ := ck_e h
        obtain ⟨μ8, e8, h⟩ := lt_e h
        refine ms_said K (inb_e q7) d12_hang_41 e8 ?_
        refine j_aload_n K 0 d12_hang_42 rfl rfl ?_
        refine mg_said K d12_hang_43 ?_
        refine j_bipush (v := 33) K d12_hang_46 (by decide) ?_
        refine j_iload_n K 1 d12_hang_48 rfl rfl ?_
        refine j_iadd K d12_hang_49 ?_
        obtain ⟨v9, e9, h⟩ := lt_e h
        refine j_eqi e9 ?_
        obtain ⟨q10, h⟩ := ck_e h
        refine ml_said K (inb_e q10) d12_hang_50 ?_
        refine j_iload_n K 2 d12_hang_51 rfl rfl ?_
        refine j_ishr K d12_hang_52 ?_
        refine j_iconst (v := 1) K d12_hang_53 (by decide) ?_
        refine j_iand K d12_hang_54 ?_
        exact mret_i K h hr hlk d12_hang_55
      · have h := if_t h q
        refine j_iconst (v := (-1)) K d12_hang_21 (by decide) ?_
        exact mret_i K h hr hlk d12_hang_22
def p12_fill (N : Nat) (a1 : Int32) (μ : Mz) : Option (Int32 × Mz) := bd (p12_isBook N  μ) (fun r1 μ1 => if r1 = 0 then some ((-1), μ1) else bo (p12_in N (a1.toInt64) 1 99) (fun r2 => if r2 = 0 then some ((-1), μ1) else bo (p12_keepsAct N  μ1) (fun μ3 => lt ((ga 7 μ3 (11 : Int32).toNatClampNeg) + a1) (fun v4 => if v4 ≤ 999 then lt (sa 7 (upd (ga 7 μ3) (11 : Int32).toNatClampNeg v4) μ3) (fun μ5 => some (ga 7 μ5 (11 : Int32).toNatClampNeg, μ5)) else lt (sa 7 (upd (ga 7 μ3) (11 : Int32).toNatClampNeg 999) μ3) (fun μ6 => some (ga 7 μ6 (11 : Int32).toNatClampNeg, μ6))))))
set_option maxHeartbeats 4000000 in
set_option maxRecDepth 100000 in
theorem c12_fill_ok (l : Launch) (D : va_G) (θ : Th) (N : Nat) (a1 : Int32) (μ : Mz) (ρ : Int32 × Mz) (h : p12_fill N a1 μ = some ρ) : CMi l D θ y12_fill c12_fill 3 (some .int) 2 [.int a1] μ ρ := by
  intro sz
  refine j_met l [.ref θ.1, .int a1] (by decide +kernel) (Nat.le_of_ble_eq_true rfl) ?_
  intro p e s m args below meth c K hr hlk hnm hs
  generalize va_A (wM θ μ) sz = A at K ⊢
  have K : KM p s m args c c12_fill 3 y12_fill (some .int) D θ A := K
  show JM p l e s m args below meth c D θ A 2 3 (QMi below args s D θ A ρ) μ [(0, .ref θ.1), (1, .int a1)] [] 0
  unfold p12_fill at h
  refine j_aload_n K 0 d12_fill_0 rfl rfl ?_
  obtain ⟨r1, μ1, e1, h⟩ := bd_e h
  refine mcall_i K (c12_isBook_ok l D θ N  μ _ e1) mG_isBook mh_isBook (by decide) (by decide) rfl (st := []) (Nat.le_of_ble_eq_true rfl) rfl d12_fill_1 ?_
  refine j_if_eq (tgt := 19) K d12_fill_4 (by decide) (fun q => ?_) (fun q => ?_)
  · have h := if_t h q
    refine j_iconst (v := (-1)) K d12_fill_19 (by decide) ?_
    exact mret_i K h hr hlk d12_fill_20
  · have h := if_f h q
    refine j_iload_n K 1 d12_fill_7 rfl rfl ?_
    refine j_i2l K d12_fill_8 ?_
    refine j_lconst (v := 1) K d12_fill_9 (by decide) ?_
    refine j_ldc2 (v := 99) K (List.mem_cons_of_mem _ mk12_366) d12_fill_10 ?_
    obtain ⟨r2, e2, h⟩ := bo_e h
    refine mcalls_i K (c12_in_ok l D θ N (a1.toInt64) 1 99 _ e2) mG_in mh_in (by decide) (by decide) rfl (st := []) (Nat.le_of_ble_eq_true rfl) rfl d12_fill_13 ?_
    refine j_if_ne (tgt := 21) K d12_fill_16 (by decide) (fun q => ?_) (fun q => ?_)
    · have h := if_f h q
      refine j_aload_n K 0 d12_fill_21 rfl rfl ?_
      obtain ⟨μ3, e3, h⟩ := bo_e h
      refine mcall_v K (c12_keepsAct_ok l D θ N  μ1 _ e3) mG_keepsAct mh_keepsAct (by decide) (by decide) rfl (st := []) (Nat.le_of_ble_eq_true rfl) rfl d12_fill_22 ?_
      refine j_aload_n K 0 d12_fill_25 rfl rfl ?_
      refine mg_said K d12_fill_26 ?_
      refine j_bipush (v := 11) K d12_fill_29 (by decide) ?_
      refine ml_said K (inb_e (by decide)) d12_fill_31 ?_
      refine j_iload_n K 1 d12_fill_32 rfl rfl ?_
      refine j_iadd K d12_fill_33 ?_
      obtain ⟨v4, e4, h⟩ := lt_e h
      refine j_eqi e4 ?_
      refine j_istore_n (lv' := [(2, .int v4), (0, .ref θ.1), (1, .int a1)]) K d12_fill_34 rfl (by decide) rfl ?_
      refine j_aload_n K 1 d12_fill_35 rfl rfl ?_
      refine mg_said K d12_fill_36 ?_
      refine j_bipush (v := 11) K d12_fill_39 (by decide) ?_
      refine j_iload_n K 0 d12_fill_41 rfl rfl ?_
      refine j_sipush (v := 999) K d12_fill_42 (by decide) ?_
      refine j_icmp_le (tgt := 54) K d12_fill_45 (by decide) (fun q => ?_) (fun q => ?_)
      · have h := if_t h q
        refine j_iload_n K 0 d12_fill_54 rfl rfl ?_
        obtain ⟨μ5, e5, h⟩ := lt_e h
        refine ms_said K (inb_e (by decide)) d12_fill_55 e5 ?_
        refine j_aload_n K 1 d12_fill_56 rfl rfl ?_
        refine mg_said K d12_fill_57 ?_
        refine j_bipush (v := 11) K d12_fill_60 (by decide) ?_
        refine ml_said K (inb_e (by decide)) d12_fill_62 ?_
        exact mret_i K h hr hlk d12_fill_63
      · have h := if_f h q
        refine j_sipush (v := 999) K d12_fill_48 (by decide) ?_
        refine j_goto (tgt := 55) K d12_fill_51 (by decide) ?_
        obtain ⟨μ6, e6, h⟩ := lt_e h
        refine ms_said K (inb_e (by decide)) d12_fill_55 e6 ?_
        refine j_aload_n K 1 d12_fill_56 rfl rfl ?_
        refine mg_said K d12_fill_57 ?_
        refine j_bipush (v := 11) K d12_fill_60 (by decide) ?_
        refine ml_said K (inb_e (by decide)) d12_fill_62 ?_
        exact mret_i K h hr hlk d12_fill_63
    · have h := if_t h q
      refine j_iconst (v := (-1)) K d12_fill_19 (by decide) ?_
      exact mret_i K h hr hlk d12_fill_20
