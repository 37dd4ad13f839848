def b12_areAlike_15 (N : Nat) : Nat → Int32 → Int32 → Int32 → Mz → Option (Int32 × Mz)
  | 0, _, _, _, _ => none
  | n + 1, x1, x2, x3, μ => if (ga 7 μ (3 : Int32).toNatClampNeg) ≤ x3 then some (1, μ) else lt ((10 * x1) + x3) (fun v3 => ck (inb v3 610) (lt ((10 * x2) + x3) (fun v5 => ck (inb v5 610) (if (ga 14 μ v3.toNatClampNeg) = (ga 14 μ v5.toNatClampNeg) then lt (x3 + 1) (fun v7 => b12_areAlike_15 N n x1 x2 v7 μ) else some (0, μ)))))
set_option maxHeartbeats 4000000 in
set_option maxRecDepth 100000 in
theorem t12_areAlike_15 {p : Program} {l : Launch} {e : Env} {s : State} {m : MethodId} {args : Array Value} {below : List Frame} {meth : Method} {c : Code} {D : va_G} {θ : Th} {A : Nat → Prop} (K : KM p s m args c c12_areAlike 4 y12_areAlike (some .boolean) D θ A) (hr : meth.sig.returnType = (some .boolean)) (hlk : meth.locks = false) (N : Nat) (ρ : Int32 × Mz) : ∀ (n : Nat) (x1 : Int32) (x2 : Int32) (x3 : Int32) (μ : Mz), b12_areAlike_15 N n x1 x2 x3 μ = some ρ → JM p l e s m args below meth c D θ A 3 4 (QMi below args s D θ A ρ) μ [(0, .ref θ.1), (1, .int x1), (2, .int x2), (3, .int x3)] [] 15 := by
  intro n
  induction n with
  | zero =>
    intro x1 x2 x3 μ h
    exact absurd h (by simp [b12_areAlike_15])
  | succ n ih =>
    intro x1 x2 x3 μ h
    rw [b12_areAlike_15] at h
    refine j_iload_n K 3 d12_areAlike_15 rfl rfl ?_
    refine j_aload_n K 0 d12_areAlike_16 rfl rfl ?_
    refine mg_said K d12_areAlike_17 ?_
    refine j_iconst (v := 3) K d12_areAlike_20 (by decide) ?_
    refine ml_said K (inb_e (by decide)) d12_areAlike_21 ?_
    refine j_icmp_ge (tgt := 58) K d12_areAlike_22 (by decide) (fun q => ?_) (fun q => ?_)
    · have h := if_t h q
      refine j_iconst (v := 1) K d12_areAlike_58 (by decide) ?_
      exact mret_z K h rfl hr hlk d12_areAlike_59
    · have h := if_f h q
      refine j_aload_n K 0 d12_areAlike_25 rfl rfl ?_
      refine mg_putThen K d12_areAlike_26 ?_
      refine j_bipush (v := 10) K d12_areAlike_29 (by decide) ?_
      refine j_iload_n K 1 d12_areAlike_31 rfl rfl ?_
      refine j_imul K d12_areAlike_32 ?_
      refine j_iload_n K 3 d12_areAlike_33 rfl rfl ?_
      refine j_iadd K d12_areAlike_34 ?_
      obtain ⟨v3, e3, h⟩ := lt_e h
      refine j_eqi e3 ?_
      obtain ⟨q4, h⟩ := ck_e h
      refine ml_putThen K (inb_e q4) d12_areAlike_35 ?_
      refine j_aload_n K 0 d12_areAlike_36 rfl rfl ?_
      refine mg_putThen K d12_areAlike_37 ?_
      refine j_bipush (v := 10) K d12_areAlike_40 (by decide) ?_
      refine j_iload_n K 2 d12_areAlike_42 rfl rfl ?_
      refine j_imul K d12_areAlike_43 ?_
      refine j_iload_n K 3 d12_areAlike_44 rfl rfl ?_
      refine j_iadd K d12_areAlike_45 ?_
      obtain ⟨v5, e5, h⟩ := lt_e h
      refine j_eqi e5 ?_
      obtain ⟨q6, h⟩ := ck_e h
      refine ml_putThen K (inb_e q6) d12_areAlike_46 ?_
      refine j_icmp_eq (tgt := 52) K d12_areAlike_47 (by decide) (fun q => ?_) (fun q => ?_)
      · have h := if_t h q
        obtain ⟨v7, e7, h⟩ := lt_e h
        refine j_iinc (k := 3) (v := v7) (lv' := [(3, .int v7), (0, .ref θ.1), (1, .int x1), (2, .int x2)]) K d12_areAlike_52 rfl (by rw [e7]; rfl) (by decide) rfl ?_
        refine j_goto (tgt := 15) K d12_areAlike_55 (by decide) ?_
        refine j_sub [1, 2, 3, 0] rfl ?_
        exact ih x1 x2 v7 μ h
      · have h := if_f h q
        refine j_iconst (v := 0) K d12_areAlike_50 (by decide) ?_
        exact mret_z K h rfl hr hlk d12_areAlike_51
def p12_areAlike (N : Nat) (a1 : Int32) (a2 : Int32) (μ : Mz) : Option (Int32 × Mz) := bd (p12_rounds N  μ) (fun r1 μ1 => ck (nz r1) (if ((a2 - a1) - (a2 - a1) / r1 * r1) = 0 then b12_areAlike_15 N N a1 a2 0 μ1 else some (0, μ1)))
set_option maxHeartbeats 4000000 in
set_option maxRecDepth 100000 in
theorem c12_areAlike_ok (l : Launch) (D : va_G) (θ : Th) (N : Nat) (a1 : Int32) (a2 : Int32) (μ : Mz) (ρ : Int32 × Mz) (h : p12_areAlike N a1 a2 μ = some ρ) : CMi l D θ y12_areAlike c12_areAlike 4 (some .boolean) 3 [.int a1, .int a2] μ ρ := by
  intro sz
  refine j_met l [.ref θ.1, .int a1, .int a2] (by decide +kernel) (Nat.le_of_ble_eq_true rfl) ?_
  intro p e s m args below meth c K hr hlk hnm hs
  generalize va_A (wM θ μ) sz = A at K ⊢
  have K : KM p s m args c c12_areAlike 4 y12_areAlike (some .boolean) D θ A := K
  show JM p l e s m args below meth c D θ A 3 4 (QMi below args s D θ A ρ) μ [(0, .ref θ.1), (1, .int a1), (2, .int a2)] [] 0
  unfold p12_areAlike at h
  refine j_iload_n K 2 d12_areAlike_0 rfl rfl ?_
  refine j_iload_n K 1 d12_areAlike_1 rfl rfl ?_
  refine j_isub K d12_areAlike_2 ?_
  refine j_aload_n K 0 d12_areAlike_3 rfl rfl ?_
  obtain ⟨r1, μ1, e1, h⟩ := bd_e h
  refine mcall_i K (c12_rounds_ok l D θ N  μ _ e1) mG_rounds mh_rounds (by decide) (by decide) rfl (st := [.int (a2 - a1)]) (Nat.le_of_ble_eq_true rfl) rfl d12_areAlike_4 ?_
  obtain ⟨q2, h⟩ := ck_e h
  refine j_irem K d12_areAlike_7 (nz_e q2) ?_
  refine j_if_eq (tgt := 13) K d12_areAlike_8 (by decide) (fun q => ?_) (fun q => ?_)
  · have h := if_t h q
    refine j_iconst (v := 0) K d12_areAlike_13 (by decide) ?_
    refine j_istore_n (lv' := [(3, .int 0), (0, .ref θ.1), (1, .int a1), (2, .int a2)]) K d12_areAlike_14 rfl (by decide) rfl ?_
    refine j_sub [1, 2, 3, 0] rfl ?_
    exact t12_areAlike_15 K hr hlk N ρ N a1 a2 0 μ1 h
  · have h := if_f h q
    refine j_iconst (v := 0) K d12_areAlike_11 (by decide) ?_
    exact mret_z K h rfl hr hlk d12_areAlike_12
def p12_value (N : Nat)  (μ : Mz) : Option (Int32 × Mz) := bd (p12_see N  μ) (fun r1 μ1 => lt (gi 2 μ1) (fun v2 => bd (p12_isDigit N (gi 2 μ1) μ1) (fun r3 μ3 => if r3 = 0 then bd (p12_wordHere N  μ3) (fun r4 μ4 => if 0 ≤ r4 then bd (p12_makes N v2 μ4) (fun r5 μ5 => if r5 = 0 then some (0, μ5) else bo (p12_passWord N  μ5) (fun μ6 => bo (p12_puts N 1 r4 μ6) (fun μ7 => some (1, μ7)))) else bd (p12_fails N 0 v2 μ4) (fun r8 μ8 => ck (b01 r8) (some (r8, μ8)))) else bd (p12_numberHere N 0 99999 μ3) (fun r10 μ10 => if r10 = 0 then some (0, μ10) else bd (p12_makes N v2 μ10) (fun r11 μ11 => if r11 = 0 then some (0, μ11) else bo (p12_puts N 0 (gi 4 μ11) μ11) (fun μ12 => some (1, μ12)))))))
set_option maxHeartbeats 4000000 in
set_option maxRecDepth 100000 in
theorem c12_value_ok (l : Launch) (D : va_G) (θ : Th) (N : Nat)  (μ : Mz) (ρ : Int32 × Mz) (h : p12_value N  μ = some ρ) : CMi l D θ y12_value c12_value 3 (some .boolean) 4 [] μ ρ := by
  intro sz
  refine j_met l [.ref θ.1] (by decide +kernel) (Nat.le_of_ble_eq_true rfl) ?_
  intro p e s m args below meth c K hr hlk hnm hs
  generalize va_A (wM θ μ) sz = A at K ⊢
  have K : KM p s m args c c12_value 3 y12_value (some .boolean) D θ A := K
  show JM p l e s m args below meth c D θ A 4 3 (QMi below args s D θ A ρ) μ [(0, .ref θ.1)] [] 0
  unfold p12_value at h
  refine j_aload_n K 0 d12_value_0 rfl rfl ?_
  obtain ⟨r1, μ1, e1, h⟩ := bd_e h
  refine mcall_i K (c12_see_ok l D θ N  μ _ e1) mG_see mh_see (by decide) (by decide) rfl (st := []) (Nat.le_of_ble_eq_true rfl) rfl d12_value_1 ?_
  refine j_pop K d12_value_4 rfl ?_
  refine j_aload_n K 0 d12_value_5 rfl rfl ?_
  refine mg_next K d12_value_6 ?_
  obtain ⟨v2, e2, h⟩ := lt_e h
  refine j_eqi e2 ?_
  refine j_istore_n (lv' := [(1, .int v2), (0, .ref θ.1)]) K d12_value_9 rfl (by decide) rfl ?_
  refine j_aload_n K 1 d12_value_10 rfl rfl ?_
  refine j_aload_n K 1 d12_value_11 rfl rfl ?_
  refine mg_next K d12_value_12 ?_
  obtain ⟨r3, μ3, e3, h⟩ := bd_e h
  refine mcall_i K (c12_isDigit_ok l D θ N (gi 2 μ1) μ1 _ e3) mG_isDigit mh_isDigit (by decide) (by decide) rfl (st := []) (Nat.le_of_ble_eq_true rfl) rfl d12_value_15 ?_
  refine j_if_eq (tgt := 52) K d12_value_18 (by decide) (fun q => ?_) (fun q => ?_)
  · have h := if_t h q
    refine j_aload_n K 1 d12_value_52 rfl rfl ?_
    obtain ⟨r4, μ4, e4, h⟩ := bd_e h
    refine mcall_i K (c12_wordHere_ok l D θ N  μ3 _ e4) mG_wordHere mh_wordHere (by decide) (by decide) rfl (st := []) (Nat.le_of_ble_eq_true rfl) rfl d12_value_53 ?_
    refine j_istore_n (lv' := [(2, .int r4), (1, .int v2), (0, .ref θ.1)]) K d12_value_56 rfl (by decide) rfl ?_
    refine j_iload_n K 0 d12_value_57 rfl rfl ?_
    refine j_if_ge (tgt := 68) K d12_value_58 (by decide) (fun q => ?_) (fun q => ?_)
    · have h := if_t h q
      refine j_aload_n K 2 d12_value_68 rfl rfl ?_
      refine j_iload_n K 1 d12_value_69 rfl rfl ?_
      obtain ⟨r5, μ5, e5, h⟩ := bd_e h
      refine mcall_i K (c12_makes_ok l D θ N v2 μ4 _ e5) mG_makes mh_makes (by decide) (by decide) rfl (st := []) (Nat.le_of_ble_eq_true rfl) rfl d12_value_70 ?_
      refine j_if_ne (tgt := 78) K d12_value_73 (by decide) (fun q => ?_) (fun q => ?_)
      · have h := if_f h q
        refine j_aload_n K 2 d12_value_78 rfl rfl ?_
        obtain ⟨μ6, e6, h⟩ := bo_e h
        refine mcall_v K (c12_passWord_ok l D θ N  μ5 _ e6) mG_passWord mh_passWord (by decide) (by decide) rfl (st := []) (Nat.le_of_ble_eq_true rfl) rfl d12_value_79 ?_
        refine j_aload_n K 2 d12_value_82 rfl rfl ?_
        refine j_iconst (v := 1) K d12_value_83 (by decide) ?_
        refine j_iload_n K 0 d12_value_84 rfl rfl ?_
        obtain ⟨μ7, e7, h⟩ := bo_e h
        refine mcall_v K (c12_puts_ok l D θ N 1 r4 μ6 _ e7) mG_puts mh_puts (by decide) (by decide) rfl (st := []) (Nat.le_of_ble_eq_true rfl) rfl d12_value_85 ?_
        refine j_iconst (v := 1) K d12_value_88 (by decide) ?_
        exact mret_z K h rfl hr hlk d12_value_89
      · have h := if_t h q
        refine j_iconst (v := 0) K d12_value_76 (by decide) ?_
        exact mret_z K h rfl hr hlk d12_value_77
    · have h := if_f h q
      refine j_aload_n K 2 d12_value_61 rfl rfl ?_
      refine j_iconst (v := 0) K d12_value_62 (by decide) ?_
      refine j_iload_n K 1 d12_value_63 rfl rfl ?_
      obtain ⟨r8, μ8, e8, h⟩ := bd_e h
      refine mcall_i K (c12_fails_ok l D θ N 0 v2 μ4 _ e8) mG_fails mh_fails (by decide) (by decide) rfl (st := []) (Nat.le_of_ble_eq_true rfl) rfl d12_value_64 ?_
      obtain ⟨q9, h⟩ := ck_e h
      exact mret_z K h (b01_e q9) hr hlk d12_value_67
  · have h := if_f h q
    refine j_aload_n K 1 d12_value_21 rfl rfl ?_
    refine j_iconst (v := 0) K d12_value_22 (by decide) ?_
    refine j_ldc (v := 99999) K (List.mem_cons_of_mem _ mk12_175) d12_value_23 ?_
    obtain ⟨r10, μ10, e10, h⟩ := bd_e h
    refine mcall_i K (c12_numberHere_ok l D θ N 0 99999 μ3 _ e10) mG_numberHere mh_numberHere (by decide) (by decide) rfl (st := []) (Nat.le_of_ble_eq_true rfl) rfl d12_value_25 ?_
    refine j_if_eq (tgt := 39) K d12_value_28 (by decide) (fun q => ?_) (fun q => ?_)
    · have h := if_t h q
      refine j_iconst (v := 0) K d12_value_39 (by decide) ?_
      exact mret_z K h rfl hr hlk d12_value_40
    · have h := if_f h q
      refine j_aload_n K 1 d12_value_31 rfl rfl ?_
      refine j_iload_n K 0 d12_value_32 rfl rfl ?_
      obtain ⟨r11, μ11, e11, h⟩ := bd_e h
      refine mcall_i K (c12_makes_ok l D θ N v2 μ10 _ e11) mG_makes mh_makes (by decide) (by decide) rfl (st := []) (Nat.le_of_ble_eq_true rfl) rfl d12_value_33 ?_
      refine j_if_ne (tgt := 41) K d12_value_36 (by decide) (fun q => ?_) (fun q => ?_)
      · have h := if_f h q
        refine j_aload_n K 1 d12_value_41 rfl rfl ?_
        refine j_iconst (v := 0) K d12_value_42 (by decide) ?_
        refine j_aload_n K 1 d12_value_43 rfl rfl ?_
        refine mg_number K d12_value_44 ?_
        obtain ⟨μ12, e12, h⟩ := bo_e h
        refine mcall_v K (c12_puts_ok l D θ N 0 (gi 4 μ11) μ11 _ e12) mG_puts mh_puts (by decide) (by decide) rfl (st := []) (Nat.le_of_ble_eq_true rfl) rfl d12_value_47 ?_
        refine j_iconst (v := 1) K d12_value_50 (by decide) ?_
        exact mret_z K h rfl hr hlk d12_value_51
      · have h := if_t h q
        refine j_iconst (v := 0) K d12_value_39 (by decide) ?_
        exact mret_z K h rfl hr hlk d12_value_40
def p12_isBookHere (N : Nat) (a1 : Int32) (μ : Mz) : Option (Int32 × Mz) := if (ga 5 μ (0 : Int32).toNatClampNeg) ≤ 0 then bo (p12_passWord N  μ) (fun μ1 => bd (p12_cellHere N 1 1 9 μ1) (fun r2 μ2 => if r2 = 0 then some (0, μ2) else bd (p12_cellHere N 97 0 999 μ2) (fun r3 μ3 => if r3 = 0 then some (0, μ3) else lt (sa 5 (upd (ga 5 μ3) (0 : Int32).toNatClampNeg 1) μ3) (fun μ4 => some (1, μ4))))) else bd (p12_fails N 4 a1 μ) (fun r5 μ5 => ck (b01 r5) (some (r5, μ5)))
set_option maxHeartbeats 4000000 in
set_option maxRecDepth 100000 in
theorem c12_isBookHere_ok (l : Launch) (D : va_G) (θ : Th) (N : Nat) (a1 : Int32) (μ : Mz) (ρ : Int32 × Mz) (h : p12_isBookHere N a1 μ = some ρ) : CMi l D θ y12_isBookHere c12_isBookHere 2 (some .boolean) 4 [.int a1] μ ρ := by
  intro sz
  refine j_met l [.ref θ.1, .int a1] (by decide +kernel) (Nat.le_of_ble_eq_true rfl) ?_
  intro p e s m args below meth c K hr hlk hnm hs
  generalize va_A (wM θ μ) sz = A at K ⊢
  have K : KM p s m args c c12_isBookHere 2 y12_isBookHere (some .boolean) D θ A := K
  show JM p l e s m args below meth c D θ A 4 2 (QMi below args s D θ A ρ) μ [(0, .ref θ.1), (1, .int a1)] [] 0
  unfold p12_isBookHere at h
  refine j_aload_n K 0 d12_isBookHere_0 rfl rfl ?_
  refine mg_read K d12_isBookHere_1 ?_
  refine j_iconst (v := 0) K d12_isBookHere_4 (by decide) ?_
  refine ml_read K (inb_e (by decide)) d12_isBookHere_5 ?_
  refine j_if_le (tgt := 16) K d12_isBookHere_6 (by decide) (fun q => ?_) (fun q => ?_)
  · have h := if_t h q
    refine j_aload_n K 0 d12_isBookHere_16 rfl rfl ?_
    obtain ⟨μ1, e1, h⟩ := bo_e h
    refine mcall_v K (c12_passWord_ok l D θ N  μ _ e1) mG_passWord mh_passWord (by decide) (by decide) rfl (st := []) (Nat.le_of_ble_eq_true rfl) rfl d12_isBookHere_17 ?_
    refine j_aload_n K 0 d12_isBookHere_20 rfl rfl ?_
    refine j_iconst (v := 1) K d12_isBookHere_21 (by decide) ?_
    refine j_iconst (v := 1) K d12_isBookHere_22 (by decide) ?_
    refine j_bipush (v := 9) K d12_isBookHere_23 (by decide) ?_
    obtain ⟨r2, μ2, e2, h⟩ := bd_e h
    refine mcall_i K (c12_cellHere_ok l D θ N 1 1 9 μ1 _ e2) mG_cellHere mh_cellHere (by decide) (by decide) rfl (st := []) (Nat.le_of_ble_eq_true rfl) rfl d12_isBookHere_25 ?_
    refine j_if_eq (tgt := 44) K d12_isBookHere_28 (by decide) (fun q => ?_) (fun q => ?_)
    · have h := if_t h q
      refine j_iconst (v := 0) K d12_isBookHere_44 (by decide) ?_
      exact mret_z K h rfl hr hlk d12_isBookHere_45
    · have h := if_f h q
      refine j_aload_n K 0 d12_isBookHere_31 rfl rfl ?_
      refine j_bipush (v := 97) K d12_isBookHere_32 (by decide) ?_
      refine j_iconst (v := 0) K d12_isBookHere_34 (by decide) ?_
      refine j_sipush (v := 999) K d12_isBookHere_35 (by decide) ?_
      obtain ⟨r3, μ3, e3, h⟩ := bd_e h
      refine mcall_i K (c12_cellHere_ok l D θ N 97 0 999 μ2 _ e3) mG_cellHere mh_cellHere (by decide) (by decide) rfl (st := []) (Nat.le_of_ble_eq_true rfl) rfl d12_isBookHere_38 ?_
      refine j_if_ne (tgt := 46) K d12_isBookHere_41 (by decide) (fun q => ?_) (fun q => ?_)
      · have h := if_f h q
        refine j_aload_n K 0 d12_isBookHere_46 rfl rfl ?_
        refine mg_read K d12_isBookHere_47 ?_
        refine j_iconst (v := 0) K d12_isBookHere_50 (by decide) ?_
        refine j_iconst (v := 1) K d12_isBookHere_51 (by decide) ?_
        obtain ⟨μ4, e4, h⟩ := lt_e h
        refine ms_read K (inb_e (by decide)) d12_isBookHere_52 e4 ?_
        refine j_iconst (v := 1) K d12_isBookHere_53 (by decide) ?_
        exact mret_z K h rfl hr hlk d12_isBookHere_54
      · have h := if_t h q
        refine j_iconst (v := 0) K d12_isBookHere_44 (by decide) ?_
        exact mret_z K h rfl hr hlk d12_isBookHere_45
  · have h := if_f h q
    refine j_aload_n K 0 d12_isBookHere_9 rfl rfl ?_
    refine j_iconst (v := 4) K d12_isBookHere_10 (by decide) ?_
    refine j_iload_n K 1 d12_isBookHere_11 rfl rfl ?_
    obtain ⟨r5, μ5, e5, h⟩ := bd_e h
    refine mcall_i K (c12_fails_ok l D θ N 4 a1 μ _ e5) mG_fails mh_fails (by decide) (by decide) rfl (st := []) (Nat.le_of_ble_eq_true rfl) rfl d12_isBookHere_12 ?_
    obtain ⟨q6, h⟩ := ck_e h
    exact mret_z K h (b01_e q6) hr hlk d12_isBookHere_15
def p12_isLetterHere (N : Nat) (a1 : Int32) (μ : Mz) : Option (Int32 × Mz) := if (ga 5 μ (3 : Int32).toNatClampNeg) = 10 then bd (p12_fails N 4 a1 μ) (fun r6 μ6 => ck (b01 r6) (some (r6, μ6))) else bo (p12_passWord N  μ) (fun μ1 => bd (p12_cellHere N (53 + (ga 5 μ1 (3 : Int32).toNatClampNeg)) 0 7 μ1) (fun r2 μ2 => if r2 = 0 then some (0, μ2) else bd (p12_cellHere N (43 + (ga 5 μ2 (3 : Int32).toNatClampNeg)) 0 7 μ2) (fun r3 μ3 => if r3 = 0 then some (0, μ3) else lt ((ga 5 μ3 (3 : Int32).toNatClampNeg) + 1) (fun v4 => lt (sa 5 (upd (ga 5 μ3) (3 : Int32).toNatClampNeg v4) μ3) (fun μ5 => some (1, μ5))))))
set_option maxHeartbeats 4000000 in
set_option maxRecDepth 100000 in
theorem c12_isLetterHere_ok (l : Launch) (D : va_G) (θ : Th) (N : Nat) (a1 : Int32) (μ : Mz) (ρ : Int32 × Mz) (h : p12_isLetterHere N a1 μ = some ρ) : CMi l D θ y12_isLetterHere c12_isLetterHere 2 (some .boolean) 4 [.int a1] μ ρ := by
  intro sz
  refine j_met l [.ref θ.1, .int a1] (by decide +kernel) (Nat.le_of_ble_eq_true rfl) ?_
  intro p e s m args below meth c K hr hlk hnm hs
  generalize va_A (wM θ μ) sz = A at K ⊢
  have K : KM p s m args c c12_isLetterHere 2 y12_isLetterHere (some .boolean) D θ A := K
  show JM p l e s m args below meth c D θ A 4 2 (QMi below args s D θ A ρ) μ [(0, .ref θ.1), (1, .int a1)] [] 0
  unfold p12_isLetterHere at h
  refine j_aload_n K 0 d12_isLetterHere_0 rfl rfl ?_
  refine mg_read K d12_isLetterHere_1 ?_
  refine j_iconst (v := 3) K d12_isLetterHere_4 (by decide) ?_
  refine ml_read K (inb_e (by decide)) d12_isLetterHere_5 ?_
  refine j_bipush (v := 10) K d12_isLetterHere_6 (by decide) ?_
  refine j_icmp_ne (tgt := 18) K d12_isLetterHere_8 (by decide) (fun q => ?_) (fun q => ?_)
  · have h := if_f h q
    refine j_aload_n K 0 d12_isLetterHere_18 rfl rfl ?_
    obtain ⟨μ1, e1, h⟩ := bo_e h
    refine mcall_v K (c12_passWord_ok l D θ N  μ _ e1) mG_passWord mh_passWord (by decide) (by decide) rfl (st := []) (Nat.le_of_ble_eq_true rfl) rfl d12_isLetterHere_19 ?_
    refine j_aload_n K 0 d12_isLetterHere_22 rfl rfl ?_
    refine j_bipush (v := 53) K d12_isLetterHere_23 (by decide) ?_
    refine j_aload_n K 0 d12_isLetterHere_25 rfl rfl ?_
    refine mg_read K d12_isLetterHere_26 ?_
    refine j_iconst (v := 3) K d12_isLetterHere_29 (by decide) ?_
    refine ml_read K (inb_e (by decide)) d12_isLetterHere_30 ?_
    refine j_iadd K d12_isLetterHere_31 ?_
    refine j_iconst (v := 0) K d12_isLetterHere_32 (by decide) ?_
    refine j_bipush (v := 7) K d12_isLetterHere_33 (by decide) ?_
    obtain ⟨r2, μ2, e2, h⟩ := bd_e h
    refine mcall_i K (c12_cellHere_ok l D θ N (53 + (ga 5 μ1 (3 : Int32).toNatClampNeg)) 0 7 μ1 _ e2) mG_cellHere mh_cellHere (by decide) (by decide) rfl (st := []) (Nat.le_of_ble_eq_true rfl) rfl d12_isLetterHere_35 ?_
    refine j_if_eq (tgt := 60) K d12_isLetterHere_38 (by decide) (fun q => ?_) (fun q => ?_)
    · have h := if_t h q
      refine j_iconst (v := 0) K d12_isLetterHere_60 (by decide) ?_
      exact mret_z K h rfl hr hlk d12_isLetterHere_61
    · have h := if_f h q
      refine j_aload_n K 0 d12_isLetterHere_41 rfl rfl ?_
      refine j_bipush (v := 43) K d12_isLetterHere_42 (by decide) ?_
      refine j_aload_n K 0 d12_isLetterHere_44 rfl rfl ?_
      refine mg_read K d12_isLetterHere_45 ?_
      refine j_iconst (v := 3) K d12_isLetterHere_48 (by decide) ?_
      refine ml_read K (inb_e (by decide)) d12_isLetterHere_49 ?_
      refine j_iadd K d12_isLetterHere_50 ?_
      refine j_iconst (v := 0) K d12_isLetterHere_51 (by decide) ?_
      refine j_bipush (v := 7) K d12_isLetterHere_52 (by decide) ?_
      obtain ⟨r3, μ3, e3, h⟩ := bd_e h
      refine mcall_i K (c12_cellHere_ok l D θ N (43 + (ga 5 μ2 (3 : Int32).toNatClampNeg)) 0 7 μ2 _ e3) mG_cellHere mh_cellHere (by decide) (by decide) rfl (st := []) (Nat.le_of_ble_eq_true rfl) rfl d12_isLetterHere_54 ?_
      refine j_if_ne (tgt := 62) K d12_isLetterHere_57 (by decide) (fun q => ?_) (fun q => ?_)
      · have h := if_f h q
        refine j_aload_n K 0 d12_isLetterHere_62 rfl rfl ?_
        refine mg_read K d12_isLetterHere_63 ?_
        refine j_iconst (v := 3) K d12_isLetterHere_66 (by decide) ?_
        refine j_dup2 K d12_isLetterHere_67 rfl rfl ?_
        refine ml_read K (inb_e (by decide)) d12_isLetterHere_68 ?_
        refine j_iconst (v := 1) K d12_isLetterHere_69 (by decide) ?_
        refine j_iadd K d12_isLetterHere_70 ?_
        obtain ⟨v4, e4, h⟩ := lt_e h
        refine j_eqi e4 ?_
        obtain ⟨μ5, e5, h⟩ := lt_e h
        refine ms_read K (inb_e (by decide)) d12_isLetterHere_71 e5 ?_
        refine j_iconst (v := 1) K d12_isLetterHere_72 (by decide) ?_
        exact mret_z K h rfl hr hlk d12_isLetterHere_73
      · have h := if_t h q
        refine j_iconst (v := 0) K d12_isLetterHere_60 (by decide) ?_
        exact mret_z K h rfl hr hlk d12_isLetterHere_61
  · have h := if_t h q
    refine j_aload_n K 0 d12_isLetterHere_11 rfl rfl ?_
    refine j_iconst (v := 4) K d12_isLetterHere_12 (by decide) ?_
    refine j_iload_n K 1 d12_isLetterHere_13 rfl rfl ?_
    obtain ⟨r6, μ6, e6, h⟩ := bd_e h
    refine mcall_i K (c12_fails_ok l D θ N 4 a1 μ _ e6) mG_fails mh_fails (by decide) (by decide) rfl (st := []) (Nat.le_of_ble_eq_true rfl) rfl d12_isLetterHere_14 ?_
    obtain ⟨q7, h⟩ := ck_e h
    exact mret_z K h (b01_e q7) hr hlk d12_isLetterHere_17
def p12_isHabitHere (N : Nat) (a1 : Int32) (μ : Mz) : Option (Int32 × Mz) := if (ga 5 μ (2 : Int32).toNatClampNeg) = 12 then bd (p12_fails N 4 a1 μ) (fun r7 μ7 => ck (b01 r7) (some (r7, μ7))) else bo (p12_passWord N  μ) (fun μ1 => lt (73 + (2 * (ga 5 μ1 (2 : Int32).toNatClampNeg))) (fun v2 => bd (p12_cellHere N v2 0 7 μ1) (fun r3 μ3 => if r3 = 0 then some (0, μ3) else bd (p12_cellHere N (v2 + 1) 0 7 μ3) (fun r4 μ4 => if r4 = 0 then some (0, μ4) else lt ((ga 5 μ4 (2 : Int32).toNatClampNeg) + 1) (fun v5 => lt (sa 5 (upd (ga 5 μ4) (2 : Int32).toNatClampNeg v5) μ4) (fun μ6 => some (1, μ6)))))))
set_option maxHeartbeats 4000000 in
set_option maxRecDepth 100000 in
theorem c12_isHabitHere_ok (l : Launch) (D : va_G) (θ : Th) (N : Nat) (a1 : Int32) (μ : Mz) (ρ : Int32 × Mz) (h : p12_isHabitHere N a1 μ = some ρ) : CMi l D θ y12_isHabitHere c12_isHabitHere 3 (some .boolean) 4 [.int a1] μ ρ := by
  intro sz
  refine j_met l [.ref θ.1, .int a1] (by decide +kernel) (Nat.le_of_ble_eq_true rfl) ?_
  intro p e s m args below meth c K hr hlk hnm hs
  generalize va_A (wM θ μ) sz = A at K ⊢
  have K : KM p s m args c c12_isHabitHere 3 y12_isHabitHere (some .boolean) D θ A := K
  show JM p l e s m args below meth c D θ A 4 3 (QMi below args s D θ A ρ) μ [(0, .ref θ.1), (1, .int a1)] [] 0
  unfold p12_isHabitHere at h
  refine j_aload_n K 0 d12_isHabitHere_0 rfl rfl ?_
  refine mg_read K d12_isHabitHere_1 ?_
  refine j_iconst (v := 2) K d12_isHabitHere_4 (by decide) ?_
  refine ml_read K (inb_e (by decide)) d12_isHabitHere_5 ?_
  refine j_bipush (v := 12) K d12_isHabitHere_6 (by decide) ?_
  refine j_icmp_ne (tgt := 18) K d12_isHabitHere_8 (by decide) (fun q => ?_) (fun q => ?_)
  · have h := if_f h q
    refine j_aload_n K 0 d12_isHabitHere_18 rfl rfl ?_
    obtain ⟨μ1, e1, h⟩ := bo_e h
    refine mcall_v K (c12_passWord_ok l D θ N  μ _ e1) mG_passWord mh_passWord (by decide) (by decide) rfl (st := []) (Nat.le_of_ble_eq_true rfl) rfl d12_isHabitHere_19 ?_
    refine j_bipush (v := 73) K d12_isHabitHere_22 (by decide) ?_
    refine j_iconst (v := 2) K d12_isHabitHere_24 (by decide) ?_
    refine j_aload_n K 0 d12_isHabitHere_25 rfl rfl ?_
    refine mg_read K d12_isHabitHere_26 ?_
    refine j_iconst (v := 2) K d12_isHabitHere_29 (by decide) ?_
    refine ml_read K (inb_e (by decide)) d12_isHabitHere_30 ?_
    refine j_imul K d12_isHabitHere_31 ?_
    refine j_iadd K d12_isHabitHere_32 ?_
    obtain ⟨v2, e2, h⟩ := lt_e h
    refine j_eqi e2 ?_
    refine j_istore_n (lv' := [(2, .int v2), (0, .ref θ.1), (1, .int a1)]) K d12_isHabitHere_33 rfl (by decide) rfl ?_
    refine j_aload_n K 1 d12_isHabitHere_34 rfl rfl ?_
    refine j_iload_n K 0 d12_isHabitHere_35 rfl rfl ?_
    refine j_iconst (v := 0) K d12_isHabitHere_36 (by decide) ?_
    refine j_bipush (v := 7) K d12_isHabitHere_37 (by decide) ?_
    obtain ⟨r3, μ3, e3, h⟩ := bd_e h
    refine mcall_i K (c12_cellHere_ok l D θ N v2 0 7 μ1 _ e3) mG_cellHere mh_cellHere (by decide) (by decide) rfl (st := []) (Nat.le_of_ble_eq_true rfl) rfl d12_isHabitHere_39 ?_
    refine j_if_eq (tgt := 58) K d12_isHabitHere_42 (by decide) (fun q => ?_) (fun q => ?_)
    · have h := if_t h q
      refine j_iconst (v := 0) K d12_isHabitHere_58 (by decide) ?_
      exact mret_z K h rfl hr hlk d12_isHabitHere_59
    · have h := if_f h q
      refine j_aload_n K 1 d12_isHabitHere_45 rfl rfl ?_
      refine j_iload_n K 0 d12_isHabitHere_46 rfl rfl ?_
      refine j_iconst (v := 1) K d12_isHabitHere_47 (by decide) ?_
      refine j_iadd K d12_isHabitHere_48 ?_
      refine j_iconst (v := 0) K d12_isHabitHere_49 (by decide) ?_
      refine j_bipush (v := 7) K d12_isHabitHere_50 (by decide) ?_
      obtain ⟨r4, μ4, e4, h⟩ := bd_e h
      refine mcall_i K (c12_cellHere_ok l D θ N (v2 + 1) 0 7 μ3 _ e4) mG_cellHere mh_cellHere (by decide) (by decide) rfl (st := []) (Nat.le_of_ble_eq_true rfl) rfl d12_isHabitHere_52 ?_
      refine j_if_ne (tgt := 60) K d12_isHabitHere_55 (by decide) (fun q => ?_) (fun q => ?_)
      · have h := if_f h q
        refine j_aload_n K 1 d12_isHabitHere_60 rfl rfl ?_
        refine mg_read K d12_isHabitHere_61 ?_
        refine j_iconst (v := 2) K d12_isHabitHere_64 (by decide) ?_
        refine j_dup2 K d12_isHabitHere_65 rfl rfl ?_
        refine ml_read K (inb_e (by decide)) d12_isHabitHere_66 ?_
        refine j_iconst (v := 1) K d12_isHabitHere_67 (by decide) ?_
        refine j_iadd K d12_isHabitHere_68 ?_
        obtain ⟨v5, e5, h⟩ := lt_e h
        refine j_eqi e5 ?_
        obtain ⟨μ6, e6, h⟩ := lt_e h
        refine ms_read K (inb_e (by decide)) d12_isHabitHere_69 e6 ?_
        refine j_iconst (v := 1) K d12_isHabitHere_70 (by decide) ?_
        exact mret_z K h rfl hr hlk d12_isHabitHere_71
      · have h := if_t h q
        refine j_iconst (v := 0) K d12_isHabitHere_58 (by decide) ?_
        exact mret_z K h rfl hr hlk d12_isHabitHere_59
  · have h := if_t h q
    refine j_aload_n K 0 d12_isHabitHere_11 rfl rfl ?_
    refine j_iconst (v := 4) K d12_isHabitHere_12 (by decide) ?_
    refine j_iload_n K 1 d12_isHabitHere_13 rfl rfl ?_
    obtain ⟨r7, μ7, e7, h⟩ := bd_e h
    refine mcall_i K (c12_fails_ok l D θ N 4 a1 μ _ e7) mG_fails mh_fails (by decide) (by decide) rfl (st := []) (Nat.le_of_ble_eq_true rfl) rfl d12_isHabitHere_14 ?_
    obtain ⟨q8, h⟩ := ck_e h
    exact mret_z K h (b01_e q8) hr hlk d12_isHabitHere_17
def b12_looseOnes_4 (N : Nat) : Nat → Int32 → Int32 → Mz → Option (Int32 × Mz)
  | 0, _, _, _ => none
  | n + 1, x1, x2, μ => if (ga 7 μ (3 : Int32).toNatClampNeg) ≤ x2 then some (x1, μ) else bd (p12_isLoose N x2 μ) (fun r1 μ1 => if r1 = 0 then lt (x1 ||| 0) (fun v2 => lt (x2 + 1) (fun v3 => b12_looseOnes_4 N n v2 v3 μ1)) else lt (x1 ||| ((1 : Int32) <<< (x2 &&& 31))) (fun v4 => lt (x2 + 1) (fun v5 => b12_looseOnes_4 N n v4 v5 μ1)))
set_option maxHeartbeats 4000000 in
set_option maxRecDepth 100000 in
theorem t12_looseOnes_4 {p : Program} {l : Launch} {e : Env} {s : State} {m : MethodId} {args : Array Value} {below : List Frame} {meth : Method} {c : Code} {D : va_G} {θ : Th} {A : Nat → Prop} (K : KM p s m args c c12_looseOnes 3 y12_looseOnes (some .int) D θ A) (hr : meth.sig.returnType = (some .int)) (hlk : meth.locks = false) (N : Nat) (ρ : Int32 × Mz) : ∀ (n : Nat) (x1 : Int32) (x2 : Int32) (μ : Mz), b12_looseOnes_4 N n x1 x2 μ = some ρ → JM p l e s m args below meth c D θ A 4 3 (QMi below args s D θ A ρ) μ [(0, .ref θ.1), (1, .int x1), (2, .int x2)] [] 4 := by
  intro n
  induction n with
  | zero =>
    intro x1 x2 μ h
    exact absurd h (by simp [b12_looseOnes_4])
  | succ n ih =>
    intro x1 x2 μ h
    rw [b12_looseOnes_4] at h
    refine j_iload_n K 2 d12_looseOnes_4 rfl rfl ?_
    refine j_aload_n K 0 d12_looseOnes_5 rfl rfl ?_
    refine mg_said K d12_looseOnes_6 ?_
    refine j_iconst (v := 3) K d12_looseOnes_9 (by decide) ?_
    refine ml_said K (inb_e (by decide)) d12_looseOnes_10 ?_
    refine j_icmp_ge (tgt := 38) K d12_looseOnes_11 (by decide) (fun q => ?_) (fun q => ?_)
    · have h := if_t h q
      refine j_iload_n K 1 d12_looseOnes_38 rfl rfl ?_
      exact mret_i K h hr hlk d12_looseOnes_39
    · have h := if_f h q
      refine j_iload_n K 1 d12_looseOnes_14 rfl rfl ?_
      refine j_aload_n K 0 d12_looseOnes_15 rfl rfl ?_
      refine j_iload_n K 2 d12_looseOnes_16 rfl rfl ?_
      obtain ⟨r1, μ1, e1, h⟩ := bd_e h
      refine mcall_i K (c12_isLoose_ok l D θ N x2 μ _ e1) mG_isLoose mh_isLoose (by decide) (by decide) rfl (st := [.int x1]) (Nat.le_of_ble_eq_true rfl) rfl d12_looseOnes_17 ?_
      refine j_if_eq (tgt := 29) K d12_looseOnes_20 (by decide) (fun q => ?_) (fun q => ?_)
      · have h := if_t h q
        refine j_iconst (v := 0) K d12_looseOnes_29 (by decide) ?_
        refine j_ior K d12_looseOnes_30 ?_
        obtain ⟨v2, e2, h⟩ := lt_e h
        refine j_eqi e2 ?_
        refine j_istore_n (lv' := [(1, .int v2), (0, .ref θ.1), (2, .int x2)]) K d12_looseOnes_31 rfl (by decide) rfl ?_
        obtain ⟨v3, e3, h⟩ := lt_e h
        refine j_iinc (k := 2) (v := v3) (lv' := [(2, .int v3), (1, .int v2), (0, .ref θ.1)]) K d12_looseOnes_32 rfl (by rw [e3]; rfl) (by decide) rfl ?_
        refine j_goto (tgt := 4) K d12_looseOnes_35 (by decide) ?_
        refine j_sub [2, 1, 0] rfl ?_
        exact ih v2 v3 μ1 h
      · have h := if_f h q
        refine j_iconst (v := 1) K d12_looseOnes_23 (by decide) ?_
        refine j_iload_n K 2 d12_looseOnes_24 rfl rfl ?_
        refine j_ishl K d12_looseOnes_25 ?_
        refine j_goto (tgt := 30) K d12_looseOnes_26 (by decide) ?_
        refine j_ior K d12_looseOnes_30 ?_
        obtain ⟨v4, e4, h⟩ := lt_e h
        refine j_eqi e4 ?_
        refine j_istore_n (lv' := [(1, .int v4), (0, .ref θ.1), (2, .int x2)]) K d12_looseOnes_31 rfl (by decide) rfl ?_
        obtain ⟨v5, e5, h⟩ := lt_e h
        refine j_iinc (k := 2) (v := v5) (lv' := [(2, .int v5), (1, .int v4), (0, .ref θ.1)]) K d12_looseOnes_32 rfl (by rw [e5]; rfl) (by decide) rfl ?_
        refine j_goto (tgt := 4) K d12_looseOnes_35 (by decide) ?_
        refine j_sub [2, 1, 0] rfl ?_
        exact ih v4 v5 μ1 h
def p12_looseOnes (N : Nat)  (μ : Mz) : Option (Int32 × Mz) := b12_looseOnes_4 N N 0 0 μ
set_option maxHeartbeats 4000000 in
set_option maxRecDepth 100000 in
theorem c12_looseOnes_ok (l : Launch) (D : va_G) (θ : Th) (N : Nat)  (μ : Mz) (ρ : Int32 × Mz) (h : p12_looseOnes N  μ = some ρ) : CMi l D θ y12_looseOnes c12_looseOnes 3 (some .int) 4 [] μ ρ := by
  intro sz
  refine j_met l [.ref θ.1] (by decide +kernel) (Nat.le_of_ble_eq_true rfl) ?_
  intro p e s m args below meth c K hr hlk hnm hs
  generalize va_A (wM θ μ) sz = A at K ⊢
  have K : KM p s m args c c12_looseOnes 3 y12_looseOnes (some .int) D θ A := K
  show JM p l e s m args below meth c D θ A 4 3 (QMi below args s D θ A ρ) μ [(0, .ref θ.1)] [] 0
  unfold p12_looseOnes at h
  refine j_iconst (v := 0) K d12_looseOnes_0 (by decide) ?_
  refine j_istore_n (lv' := [(1, .int 0), (0, .ref θ.1)]) K d12_looseOnes_1 rfl (by decide) rfl ?_
  refine j_iconst (v := 0) K d12_looseOnes_2 (by decide) ?_
  refine j_istore_n (lv' := [(2, .int 0), (1, .int 0), (0, .ref θ.1)]) K d12_looseOnes_3 rfl (by decide) rfl ?_
  refine j_sub [2, 1, 0] rfl ?_
  exact t12_looseOnes_4 K hr hlk N ρ N 0 0 μ h
def b12_slipsBy_45 (N : Nat) : Nat → Int32 → Int32 → Int32 → Mz → Option (Mz)
  | 0, _, _, _, _ => none
  | n + 1, x1, x2, x3, μ => if (ga 7 μ (3 : Int32).toNatClampNeg) ≤ x3 then some μ else if x3 = x1 then lt (x3 + 1) (fun v2 => b12_slipsBy_45 N n x1 x2 v2 μ) else lt (13 + x3) (fun v3 => ck (inb v3 129) (if (ga 7 μ v3.toNatClampNeg) = x2 then bd (p12_toOn N (ga 7 μ (10 : Int32).toNatClampNeg) μ) (fun r5 μ5 => ck (inb (13 + x3) 129) (lt (sa 7 (upd (ga 7 μ5) (13 + x3).toNatClampNeg r5) μ5) (fun μ7 => some μ7))) else lt (x3 + 1) (fun v8 => b12_slipsBy_45 N n x1 x2 v8 μ)))
set_option maxHeartbeats 4000000 in
set_option maxRecDepth 100000 in
theorem t12_slipsBy_45 {p : Program} {l : Launch} {e : Env} {s : State} {m : MethodId} {args : Array Value} {below : List Frame} {meth : Method} {c : Code} {D : va_G} {θ : Th} {A : Nat → Prop} (K : KM p s m args c c12_slipsBy 4 y12_slipsBy none D θ A) (hr : meth.sig.returnType = none) (hlk : meth.locks = false) (N : Nat) (ρ : Mz) : ∀ (n : Nat) (x1 : Int32) (x2 : Int32) (x3 : Int32) (μ : Mz), b12_slipsBy_45 N n x1 x2 x3 μ = some ρ → JM p l e s m args below meth c D θ A 4 4 (QMv below args s D θ A ρ) μ [(0, .ref θ.1), (1, .int x1), (2, .int x2), (3, .int x3)] [] 45 := by
  intro n
  induction n with
  | zero =>
    intro x1 x2 x3 μ h
    exact absurd h (by simp [b12_slipsBy_45])
  | succ n ih =>
    intro x1 x2 x3 μ h
    rw [b12_slipsBy_45] at h
    refine j_iload_n K 3 d12_slipsBy_45 rfl rfl ?_
    refine j_aload_n K 0 d12_slipsBy_46 rfl rfl ?_
    refine mg_said K d12_slipsBy_47 ?_
    refine j_iconst (v := 3) K d12_slipsBy_50 (by decide) ?_
    refine ml_said K (inb_e (by decide)) d12_slipsBy_51 ?_
    refine j_icmp_ge (tgt := 103) K d12_slipsBy_52 (by decide) (fun q => ?_) (fun q => ?_)
    · have h := if_t h q
      exact mret_v K h hr hlk d12_slipsBy_103
    · have h := if_f h q
      refine j_iload_n K 3 d12_slipsBy_55 rfl rfl ?_
      refine j_iload_n K 1 d12_slipsBy_56 rfl rfl ?_
      refine j_icmp_eq (tgt := 97) K d12_slipsBy_57 (by decide) (fun q => ?_) (fun q => ?_)
      · have h := if_t h q
        obtain ⟨v2, e2, h⟩ := lt_e h
        refine j_iinc (k := 3) (v := v2) (lv' := [(3, .int v2), (0, .ref θ.1), (1, .int x1), (2, .int x2)]) K d12_slipsBy_97 rfl (by rw [e2]; rfl) (by decide) rfl ?_
        refine j_goto (tgt := 45) K d12_slipsBy_100 (by decide) ?_
        refine j_sub [1, 2, 3, 0] rfl ?_
        exact ih x1 x2 v2 μ h
      · have h := if_f h q
        refine j_aload_n K 0 d12_slipsBy_60 rfl rfl ?_
        refine mg_said K d12_slipsBy_61 ?_
        refine j_bipush (v := 13) K d12_slipsBy_64 (by decide) ?_
        refine j_iload_n K 3 d12_slipsBy_66 rfl rfl ?_
        refine j_iadd K d12_slipsBy_67 ?_
        obtain ⟨v3, e3, h⟩ := lt_e h
        refine j_eqi e3 ?_
        obtain ⟨q4, h⟩ := ck_e h
        refine ml_said K (inb_e q4) d12_slipsBy_68 ?_
        refine j_iload_n K 2 d12_slipsBy_69 rfl rfl ?_
        refine j_icmp_eq (tgt := 76) K d12_slipsBy_70 (by decide) (fun q => ?_) (fun q => ?_)
        · have h := if_t h q
          refine j_aload_n K 0 d12_slipsBy_76 rfl rfl ?_
          refine mg_said K d12_slipsBy_77 ?_
          refine j_bipush (v := 13) K d12_slipsBy_80 (by decide) ?_
          refine j_iload_n K 3 d12_slipsBy_82 rfl rfl ?_
          refine j_iadd K d12_slipsBy_83 ?_
          refine j_aload_n K 0 d12_slipsBy_84 rfl rfl ?_
          refine j_aload_n K 0 d12_slipsBy_85 rfl rfl ?_
          refine mg_said K d12_slipsBy_86 ?_
          refine j_bipush (v := 10) K d12_slipsBy_89 (by decide) ?_
          refine ml_said K (inb_e (by decide)) d12_slipsBy_91 ?_
          obtain ⟨r5, μ5, e5, h⟩ := bd_e h
          refine mcall_i K (c12_toOn_ok l D θ N (ga 7 μ (10 : Int32).toNatClampNeg) μ _ e5) mG_toOn mh_toOn (by decide) (by decide) rfl (st := [.int (13 + x3), .ref (θ.2.1 9)]) (Nat.le_of_ble_eq_true rfl) rfl d12_slipsBy_92 ?_
          obtain ⟨q6, h⟩ := ck_e h
          obtain ⟨μ7, e7, h⟩ := lt_e h
          refine ms_said K (inb_e q6) d12_slipsBy_95 e7 ?_
          exact mret_v K h hr hlk d12_slipsBy_96
        · have h := if_f h q
          refine j_goto (tgt := 97) K d12_slipsBy_73 (by decide) ?_
          obtain ⟨v8, e8, h⟩ := lt_e h
          refine j_iinc (k := 3) (v := v8) (lv' := [(3, .int v8), (0, .ref θ.1), (1, .int x1), (2, .int x2)]) K d12_slipsBy_97 rfl (by rw [e8]; rfl) (by decide) rfl ?_
          refine j_goto (tgt := 45) K d12_slipsBy_100 (by decide) ?_
          refine j_sub [1, 2, 3, 0] rfl ?_
          exact ih x1 x2 v8 μ h
def p12_slipsBy (N : Nat) (a1 : Int32) (μ : Mz) : Option (Mz) := bd (p12_fromOn N (ga 7 μ (10 : Int32).toNatClampNeg) μ) (fun r1 μ1 => if (ga 7 μ1 (2 : Int32).toNatClampNeg) ≤ 0 then b12_slipsBy_45 N N a1 r1 0 μ1 else lt (ga 7 μ1 (2 : Int32).toNatClampNeg) (fun v9 => ck (nz v9) (if ((ga 7 μ1 (10 : Int32).toNatClampNeg) - (ga 7 μ1 (10 : Int32).toNatClampNeg) / v9 * v9) = (gi 13 μ1) then some μ1 else b12_slipsBy_45 N N a1 r1 0 μ1)))
set_option maxHeartbeats 4000000 in
set_option maxRecDepth 100000 in
theorem c12_slipsBy_ok (l : Launch) (D : va_G) (θ : Th) (N : Nat) (a1 : Int32) (μ : Mz) (ρ : Mz) (h : p12_slipsBy N a1 μ = some ρ) : CMv l D θ y12_slipsBy c12_slipsBy 4 none 4 [.int a1] μ ρ := by
  intro sz
  refine j_met l [.ref θ.1, .int a1] (by decide +kernel) (Nat.le_of_ble_eq_true rfl) ?_
  intro p e s m args below meth c K hr hlk hnm hs
  generalize va_A (wM θ μ) sz = A at K ⊢
  have K : KM p s m args c c12_slipsBy 4 y12_slipsBy none D θ A := K
  show JM p l e s m args below meth c D θ A 4 4 (QMv below args s D θ A ρ) μ [(0, .ref θ.1), (1, .int a1)] [] 0
  unfold p12_slipsBy at h
  refine j_aload_n K 0 d12_slipsBy_0 rfl rfl ?_
  refine j_aload_n K 0 d12_slipsBy_1 rfl rfl ?_
  refine mg_said K d12_slipsBy_2 ?_
  refine j_bipush (v := 10) K d12_slipsBy_5 (by decide) ?_
  refine ml_said K (inb_e (by decide)) d12_slipsBy_7 ?_
  obtain ⟨r1, μ1, e1, h⟩ := bd_e h
  refine mcall_i K (c12_fromOn_ok l D θ N (ga 7 μ (10 : Int32).toNatClampNeg) μ _ e1) mG_fromOn mh_fromOn (by decide) (by decide) rfl (st := []) (Nat.le_of_ble_eq_true rfl) rfl d12_slipsBy_8 ?_
  refine j_istore_n (lv' := [(2, .int r1), (0, .ref θ.1), (1, .int a1)]) K d12_slipsBy_11 rfl (by decide) rfl ?_
  refine j_aload_n K 1 d12_slipsBy_12 rfl rfl ?_
  refine mg_said K d12_slipsBy_13 ?_
  refine j_iconst (v := 2) K d12_slipsBy_16 (by decide) ?_
  refine ml_said K (inb_e (by decide)) d12_slipsBy_17 ?_
  refine j_if_le (tgt := 43) K d12_slipsBy_18 (by decide) (fun q => ?_) (fun q => ?_)
  · have h := if_t h q
    refine j_iconst (v := 0) K d12_slipsBy_43 (by decide) ?_
    refine j_istore_n (lv' := [(3, .int 0), (2, .int r1), (0, .ref θ.1), (1, .int a1)]) K d12_slipsBy_44 rfl (by decide) rfl ?_
    refine j_sub [2, 3, 1, 0] rfl ?_
    exact t12_slipsBy_45 K hr hlk N ρ N a1 r1 0 μ1 h
  · have h := if_f h q
    refine j_aload_n K 1 d12_slipsBy_21 rfl rfl ?_
    refine mg_said K d12_slipsBy_22 ?_
    refine j_bipush (v := 10) K d12_slipsBy_25 (by decide) ?_
    refine ml_said K (inb_e (by decide)) d12_slipsBy_27 ?_
    refine j_aload_n K 1 d12_slipsBy_28 rfl rfl ?_
    refine mg_said K d12_slipsBy_29 ?_
    refine j_iconst (v := 2) K d12_slipsBy_32 (by decide) ?_
    refine ml_said K (inb_e (by decide)) d12_slipsBy_33 ?_
    obtain ⟨v9, e9, h⟩ := lt_e h
    refine j_eqi e9 ?_
    obtain ⟨q10, h⟩ := ck_e h
    refine j_irem K d12_slipsBy_34 (nz_e q10) ?_
    refine j_aload_n K 1 d12_slipsBy_35 rfl rfl ?_
    refine mg_leftNow K d12_slipsBy_36 ?_
    refine j_icmp_ne (tgt := 43) K d12_slipsBy_39 (by decide) (fun q => ?_) (fun q => ?_)
    · have h := if_f h q
      refine j_iconst (v := 0) K d12_slipsBy_43 (by decide) ?_
      refine j_istore_n (lv' := [(3, .int 0), (2, .int r1), (0, .ref θ.1), (1, .int a1)]) K d12_slipsBy_44 rfl (by decide) rfl ?_
      refine j_sub [2, 3, 1, 0] rfl ?_
      exact t12_slipsBy_45 K hr hlk N ρ N a1 r1 0 μ1 h
    · have h := if_t h q
      exact mret_v K h hr hlk d12_slipsBy_42
def p12_mend (N : Nat) (a1 : Int32) (μ : Mz) : Option (Int32 × Mz) := bd (p12_isLoose N a1 μ) (fun r1 μ1 => if r1 = 0 then some ((-1), μ1) else bo (p12_keepsAct N  μ1) (fun μ2 => lt (43 + a1) (fun v3 => ck (inb v3 129) (lt (ga 7 μ2 v3.toNatClampNeg) (fun v5 => ck (inb (13 + a1) 129) (lt (sa 7 (upd (ga 7 μ2) (13 + a1).toNatClampNeg v5) μ2) (fun μ7 => bd (p12_wrongOnes N  μ7) (fun r8 μ8 => bo (p12_bits N r8) (fun r9 => some (r9, μ8))))))))))
set_option maxHeartbeats 4000000 in
set_option maxRecDepth 100000 in
theorem c12_mend_ok (l : Launch) (D : va_G) (θ : Th) (N : Nat) (a1 : Int32) (μ : Mz) (ρ : Int32 × Mz) (h : p12_mend N a1 μ = some ρ) : CMi l D θ y12_mend c12_mend 2 (some .int) 4 [.int a1] μ ρ := by
  intro sz
  refine j_met l [.ref θ.1, .int a1] (by decide +kernel) (Nat.le_of_ble_eq_true rfl) ?_
  intro p e s m args below meth c K hr hlk hnm hs
  generalize va_A (wM θ μ) sz = A at K ⊢
  have K : KM p s m args c c12_mend 2 y12_mend (some .int) D θ A := K
  show JM p l e s m args below meth c D θ A 4 2 (QMi below args s D θ A ρ) μ [(0, .ref θ.1), (1, .int a1)] [] 0
  unfold p12_mend at h
  refine j_aload_n K 0 d12_mend_0 rfl rfl ?_
  refine j_iload_n K 1 d12_mend_1 rfl rfl ?_
  obtain ⟨r1, μ1, e1, h⟩ := bd_e h
  refine mcall_i K (c12_isLoose_ok l D θ N a1 μ _ e1) mG_isLoose mh_isLoose (by decide) (by decide) rfl (st := []) (Nat.le_of_ble_eq_true rfl) rfl d12_mend_2 ?_
  refine j_if_ne (tgt := 10) K d12_mend_5 (by decide) (fun q => ?_) (fun q => ?_)
  · have h := if_f h q
    refine j_aload_n K 0 d12_mend_10 rfl rfl ?_
    obtain ⟨μ2, e2, h⟩ := bo_e h
    refine mcall_v K (c12_keepsAct_ok l D θ N  μ1 _ e2) mG_keepsAct mh_keepsAct (by decide) (by decide) rfl (st := []) (Nat.le_of_ble_eq_true rfl) rfl d12_mend_11 ?_
    refine j_aload_n K 0 d12_mend_14 rfl rfl ?_
    refine mg_said K d12_mend_15 ?_
    refine j_bipush (v := 13) K d12_mend_18 (by decide) ?_
    refine j_iload_n K 1 d12_mend_20 rfl rfl ?_
    refine j_iadd K d12_mend_21 ?_
    refine j_aload_n K 0 d12_mend_22 rfl rfl ?_
    refine mg_said K d12_mend_23 ?_
    refine j_bipush (v := 43) K d12_mend_26 (by decide) ?_
    refine j_iload_n K 1 d12_mend_28 rfl rfl ?_
    refine j_iadd K d12_mend_29 ?_
    obtain ⟨v3, e3, h⟩ := lt_e h
    refine j_eqi e3 ?_
    obtain ⟨q4, h⟩ := ck_e h
    refine ml_said K (inb_e q4) d12_mend_30 ?_
    obtain ⟨v5, e5, h⟩ := lt_e h
    refine j_eqi e5 ?_
    obtain ⟨q6, h⟩ := ck_e h
    obtain ⟨μ7, e7, h⟩ := lt_e h
    refine ms_said K (inb_e q6) d12_mend_31 e7 ?_
    refine j_aload_n K 0 d12_mend_32 rfl rfl ?_
    obtain ⟨r8, μ8, e8, h⟩ := bd_e h
    refine mcall_i K (c12_wrongOnes_ok l D θ N  μ7 _ e8) mG_wrongOnes mh_wrongOnes (by decide) (by decide) rfl (st := []) (Nat.le_of_ble_eq_true rfl) rfl d12_mend_33 ?_
    obtain ⟨r9, e9, h⟩ := bo_e h
    refine mcalls_i K (c12_bits_ok l D θ N r8 _ e9) mG_bits mh_bits (by decide) (by decide) rfl (st := []) (Nat.le_of_ble_eq_true rfl) rfl d12_mend_36 ?_
    exact mret_i K h hr hlk d12_mend_39
  · have h := if_t h q
    refine j_iconst (v := (-1)) K d12_mend_8 (by decide) ?_
    exact mret_i K h hr hlk d12_mend_9
def b12_term_74 (N : Nat) (k9 : Mz → Option (Int32 × Mz)) (t0 : Int32) (μ : Mz) : Option (Int32 × Mz) := lt (si 2 ((gi 2 μ) + 1) μ) (fun μ7 => bd (p12_value N  μ7) (fun r8 μ8 => if r8 = 0 then some (0, μ8) else bo (p12_puts N t0 0 μ8) (fun μ9 => k9  μ9)))
set_option maxHeartbeats 4000000 in
set_option maxRecDepth 100000 in
theorem t12_term_74 {p : Program} {l : Launch} {e : Env} {s : State} {m : MethodId} {args : Array Value} {below : List Frame} {meth : Method} {c : Code} {D : va_G} {θ : Th} {A : Nat → Prop} (K : KM p s m args c c12_term 2 y12_term (some .boolean) D θ A) (hr : meth.sig.returnType = (some .boolean)) (hlk : meth.locks = false) (N : Nat) (ρ : Int32 × Mz) (k9 : Mz → Option (Int32 × Mz)) (hk9 : ∀  (μ : Mz), k9  μ = some ρ → JM p l e s m args below meth c D θ A 5 2 (QMi below args s D θ A ρ) μ [(0, .ref θ.1)] [] 9) (t0 : Int32) (μ : Mz) (h : b12_term_74 N k9 t0 μ = some ρ) : JM p l e s m args below meth c D θ A 5 2 (QMi below args s D θ A ρ) μ [(0, .ref θ.1)] [.int t0] 74 := by
  unfold b12_term_74 at h
  refine j_istore_n (lv' := [(1, .int t0), (0, .ref θ.1)]) K d12_term_74 rfl (by decide) rfl ?_
  refine j_aload_n K 1 d12_term_75 rfl rfl ?_
  refine j_dup K d12_term_76 rfl ?_
  refine mg_next K d12_term_77 ?_
  refine j_iconst (v := 1) K d12_term_80 (by decide) ?_
  refine j_iadd K d12_term_81 ?_
  obtain ⟨μ7, e7, h⟩ := lt_e h
  refine mp_next K d12_term_82 e7 ?_
  refine j_aload_n K 1 d12_term_85 rfl rfl ?_
  obtain ⟨r8, μ8, e8, h⟩ := bd_e h
  refine mcall_i K (c12_value_ok l D θ N  μ7 _ e8) mG_value mh_value (by decide) (by decide) rfl (st := []) (Nat.le_of_ble_eq_true rfl) rfl d12_term_86 ?_
  refine j_if_ne (tgt := 94) K d12_term_89 (by decide) (fun q => ?_) (fun q => ?_)
  · have h := if_f h q
    refine j_aload_n K 1 d12_term_94 rfl rfl ?_
    refine j_iload_n K 0 d12_term_95 rfl rfl ?_
    refine j_iconst (v := 0) K d12_term_96 (by decide) ?_
    obtain ⟨μ9, e9, h⟩ := bo_e h
    refine mcall_v K (c12_puts_ok l D θ N t0 0 μ8 _ e9) mG_puts mh_puts (by decide) (by decide) rfl (st := []) (Nat.le_of_ble_eq_true rfl) rfl d12_term_97 ?_
    refine j_goto (tgt := 9) K d12_term_100 (by decide) ?_
    refine j_sub [1] rfl ?_
    exact hk9  μ9 h
  · have h := if_t h q
    refine j_iconst (v := 0) K d12_term_92 (by decide) ?_
    exact mret_z K h rfl hr hlk d12_term_93
def b12_term_36 (N : Nat) (k9 : Mz → Option (Int32 × Mz))  (μ : Mz) : Option (Int32 × Mz) := lt (gi 2 μ) (fun v3 => ck (inb v3 400) (if (ga 0 μ v3.toNatClampNeg) = 42 then b12_term_74 N k9 4 μ else lt (gi 2 μ) (fun v5 => ck (inb v5 400) (if (ga 0 μ v5.toNatClampNeg) = 47 then b12_term_74 N k9 5 μ else b12_term_74 N k9 14 μ))))
set_option maxHeartbeats 4000000 in
set_option maxRecDepth 100000 in
theorem t12_term_36 {p : Program} {l : Launch} {e : Env} {s : State} {m : MethodId} {args : Array Value} {below : List Frame} {meth : Method} {c : Code} {D : va_G} {θ : Th} {A : Nat → Prop} (K : KM p s m args c c12_term 2 y12_term (some .boolean) D θ A) (hr : meth.sig.returnType = (some .boolean)) (hlk : meth.locks = false) (N : Nat) (ρ : Int32 × Mz) (k9 : Mz → Option (Int32 × Mz)) (hk9 : ∀  (μ : Mz), k9  μ = some ρ → JM p l e s m args below meth c D θ A 5 2 (QMi below args s D θ A ρ) μ [(0, .ref θ.1)] [] 9)  (μ : Mz) (h : b12_term_36 N k9  μ = some ρ) : JM p l e s m args below meth c D θ A 5 2 (QMi below args s D θ A ρ) μ [(0, .ref θ.1)] [] 36 := by
  unfold b12_term_36 at h
  refine j_aload_n K 0 d12_term_36 rfl rfl ?_
  refine mg_tape K d12_term_37 ?_
  refine j_aload_n K 0 d12_term_40 rfl rfl ?_
  refine mg_next K d12_term_41 ?_
  obtain ⟨v3, e3, h⟩ := lt_e h
  refine j_eqi e3 ?_
  obtain ⟨q4, h⟩ := ck_e h
  refine ml_tape K (inb_e q4) d12_term_44 ?_
  refine j_bipush (v := 42) K d12_term_45 (by decide) ?_
  refine j_icmp_ne (tgt := 54) K d12_term_47 (by decide) (fun q => ?_) (fun q => ?_)
  · have h := if_f h q
    refine j_aload_n K 0 d12_term_54 rfl rfl ?_
    refine mg_tape K d12_term_55 ?_
    refine j_aload_n K 0 d12_term_58 rfl rfl ?_
    refine mg_next K d12_term_59 ?_
    obtain ⟨v5, e5, h⟩ := lt_e h
    refine j_eqi e5 ?_
    obtain ⟨q6, h⟩ := ck_e h
    refine ml_tape K (inb_e q6) d12_term_62 ?_
    refine j_bipush (v := 47) K d12_term_63 (by decide) ?_
    refine j_icmp_ne (tgt := 72) K d12_term_65 (by decide) (fun q => ?_) (fun q => ?_)
    · have h := if_f h q
      refine j_bipush (v := 14) K d12_term_72 (by decide) ?_
      exact t12_term_74 K hr hlk N ρ k9 hk9 14 μ h
    · have h := if_t h q
      refine j_iconst (v := 5) K d12_term_68 (by decide) ?_
      refine j_goto (tgt := 74) K d12_term_69 (by decide) ?_
      exact t12_term_74 K hr hlk N ρ k9 hk9 5 μ h
  · have h := if_t h q
    refine j_iconst (v := 4) K d12_term_50 (by decide) ?_
    refine j_goto (tgt := 74) K d12_term_51 (by decide) ?_
    exact t12_term_74 K hr hlk N ρ k9 hk9 4 μ h
def b12_term_9 (N : Nat) : Nat → Mz → Option (Int32 × Mz)
  | 0, _ => none
  | n + 1, μ => bd (p12_see N  μ) (fun r2 μ2 => if r2 = 42 then b12_term_36 N (b12_term_9 N n) μ2 else bd (p12_see N  μ2) (fun r10 μ10 => if r10 = 47 then b12_term_36 N (b12_term_9 N n) μ10 else bd (p12_see N  μ10) (fun r11 μ11 => if r11 = 37 then b12_term_36 N (b12_term_9 N n) μ11 else some (1, μ11))))
set_option maxHeartbeats 4000000 in
set_option maxRecDepth 100000 in
theorem t12_term_9 {p : Program} {l : Launch} {e : Env} {s : State} {m : MethodId} {args : Array Value} {below : List Frame} {meth : Method} {c : Code} {D : va_G} {θ : Th} {A : Nat → Prop} (K : KM p s m args c c12_term 2 y12_term (some .boolean) D θ A) (hr : meth.sig.returnType = (some .boolean)) (hlk : meth.locks = false) (N : Nat) (ρ : Int32 × Mz) : ∀ (n : Nat)  (μ : Mz), b12_term_9 N n  μ = some ρ → JM p l e s m args below meth c D θ A 5 2 (QMi below args s D θ A ρ) μ [(0, .ref θ.1)] [] 9 := by
  intro n
  induction n with
  | zero =>
    intro μ h
    exact absurd h (by simp [b12_term_9])
  | succ n ih =>
    intro μ h
    rw [b12_term_9] at h
    refine j_aload_n K 0 d12_term_9 rfl rfl ?_
    obtain ⟨r2, μ2, e2, h⟩ := bd_e h
    refine mcall_i K (c12_see_ok l D θ N  μ _ e2) mG_see mh_see (by decide) (by decide) rfl (st := []) (Nat.le_of_ble_eq_true rfl) rfl d12_term_10 ?_
    refine j_bipush (v := 42) K d12_term_13 (by decide) ?_
    refine j_icmp_eq (tgt := 36) K d12_term_15 (by decide) (fun q => ?_) (fun q => ?_)
    · have h := if_t h q
      exact t12_term_36 K hr hlk N ρ (b12_term_9 N n) ih  μ2 h
    · have h := if_f h q
      refine j_aload_n K 0 d12_term_18 rfl rfl ?_
      obtain ⟨r10, μ10, e10, h⟩ := bd_e h
      refine mcall_i K (c12_see_ok l D θ N  μ2 _ e10) mG_see mh_see (by decide) (by decide) rfl (st := []) (Nat.le_of_ble_eq_true rfl) rfl d12_term_19 ?_
      refine j_bipush (v := 47) K d12_term_22 (by decide) ?_
      refine j_icmp_eq (tgt := 36) K d12_term_24 (by decide) (fun q => ?_) (fun q => ?_)
      · have h := if_t h q
        exact t12_term_36 K hr hlk N ρ (b12_term_9 N n) ih  μ10 h
      · have h := if_f h q
        refine j_aload_n K 0 d12_term_27 rfl rfl ?_
        obtain ⟨r11, μ11, e11, h⟩ := bd_e h
        refine mcall_i K (c12_see_ok l D θ N  μ10 _ e11) mG_see mh_see (by decide) (by decide) rfl (st := []) (Nat.le_of_ble_eq_true rfl) rfl d12_term_28 ?_
        refine j_bipush (v := 37) K d12_term_31 (by decide) ?_
        refine j_icmp_ne (tgt := 103) K d12_term_33 (by decide) (fun q => ?_) (fun q => ?_)
        · have h := if_f h q
          refine j_iconst (v := 1) K d12_term_103 (by decide) ?_
          exact mret_z K h rfl hr hlk d12_term_104
        · have h := if_t h q
          exact t12_term_36 K hr hlk N ρ (b12_term_9 N n) ih  μ11 h
def p12_term (N : Nat)  (μ : Mz) : Option (Int32 × Mz) := bd (p12_value N  μ) (fun r1 μ1 => if r1 = 0 then some (0, μ1) else b12_term_9 N N μ1)
set_option maxHeartbeats 4000000 in
set_option maxRecDepth 100000 in
theorem c12_term_ok (l : Launch) (D : va_G) (θ : Th) (N : Nat)  (μ : Mz) (ρ : Int32 × Mz) (h : p12_term N  μ = some ρ) : CMi l D θ y12_term c12_term 2 (some .boolean) 5 [] μ ρ := by
  intro sz
  refine j_met l [.ref θ.1] (by decide +kernel) (Nat.le_of_ble_eq_true rfl) ?_
  intro p e s m args below meth c K hr hlk hnm hs
  generalize va_A (wM θ μ) sz = A at K ⊢
  have K : KM p s m args c c12_term 2 y12_term (some .boolean) D θ A := K
  show JM p l e s m args below meth c D θ A 5 2 (QMi below args s D θ A ρ) μ [(0, .ref θ.1)] [] 0
  unfold p12_term at h
  refine j_aload_n K 0 d12_term_0 rfl rfl ?_
  obtain ⟨r1, μ1, e1, h⟩ := bd_e h
  refine mcall_i K (c12_value_ok l D θ N  μ _ e1) mG_value mh_value (by decide) (by decide) rfl (st := []) (Nat.le_of_ble_eq_true rfl) rfl d12_term_1 ?_
  refine j_if_ne (tgt := 9) K d12_term_4 (by decide) (fun q => ?_) (fun q => ?_)
  · have h := if_f h q
    exact t12_term_9 K hr hlk N ρ N  μ1 h
  · have h := if_t h q
    refine j_iconst (v := 0) K d12_term_7 (by decide) ?_
    exact mret_z K h rfl hr hlk d12_term_8
def p12_bookLineHere (N : Nat) (a1 : Int32) (μ : Mz) : Option (Int32 × Mz) := bd (p12_isWord N 1651470187 μ) (fun r1 μ1 => if r1 = 0 then if (ga 5 μ1 (0 : Int32).toNatClampNeg) = 0 then bd (p12_fails N 4 a1 μ1) (fun r10 μ10 => ck (b01 r10) (some (r10, μ10))) else bd (p12_isWord N 119183001281906 μ1) (fun r2 μ2 => if r2 = 0 then bd (p12_isWord N 448310438260 μ2) (fun r3 μ3 => if r3 = 0 then bd (p12_isHangsHere N  μ3) (fun r4 μ4 => ck (b01 r4) (some (r4, μ4))) else bd (p12_isHabitHere N a1 μ3) (fun r6 μ6 => ck (b01 r6) (some (r6, μ6)))) else bd (p12_isLetterHere N a1 μ2) (fun r8 μ8 => ck (b01 r8) (some (r8, μ8)))) else bd (p12_isBookHere N a1 μ1) (fun r12 μ12 => ck (b01 r12) (some (r12, μ12))))
set_option maxHeartbeats 4000000 in
set_option maxRecDepth 100000 in
theorem c12_bookLineHere_ok (l : Launch) (D : va_G) (θ : Th) (N : Nat) (a1 : Int32) (μ : Mz) (ρ : Int32 × Mz) (h : p12_bookLineHere N a1 μ = some ρ) : CMi l D θ y12_bookLineHere c12_bookLineHere 2 (some .boolean) 5 [.int a1] μ ρ := by
  intro sz
  refine j_met l [.ref θ.1, .int a1] (by decide +kernel) (Nat.le_of_ble_eq_true rfl) ?_
  intro p e s m args below meth c K hr hlk hnm hs
  generalize va_A (wM θ μ) sz = A at K ⊢
  have K : KM p s m args c c12_bookLineHere 2 y12_bookLineHere (some .boolean) D θ A := K
  show JM p l e s m args below meth c D θ A 5 2 (QMi below args s D θ A ρ) μ [(0, .ref θ.1), (1, .int a1)] [] 0
  unfold p12_bookLineHere at h
  refine j_aload_n K 0 d12_bookLineHere_0 rfl rfl ?_
  refine j_ldc2 (v := 1651470187) K (List.mem_cons_of_mem _ mk12_231) d12_bookLineHere_1 ?_
  obtain ⟨r1, μ1, e1, h⟩ := bd_e h
  refine mcall_i K (c12_isWord_ok l D θ N 1651470187 μ _ e1) mG_isWord mh_isWord (by decide) (by decide) rfl (st := []) (Nat.le_of_ble_eq_true rfl) rfl d12_bookLineHere_4 ?_
  refine j_if_eq (tgt := 16) K d12_bookLineHere_7 (by decide) (fun q => ?_) (fun q => ?_)
  · have h := if_t h q
    refine j_aload_n K 0 d12_bookLineHere_16 rfl rfl ?_
    refine mg_read K d12_bookLineHere_17 ?_
    refine j_iconst (v := 0) K d12_bookLineHere_20 (by decide) ?_
    refine ml_read K (inb_e (by decide)) d12_bookLineHere_21 ?_
    refine j_if_ne (tgt := 32) K d12_bookLineHere_22 (by decide) (fun q => ?_) (fun q => ?_)
    · have h := if_f h q
      refine j_aload_n K 0 d12_bookLineHere_32 rfl rfl ?_
      refine j_ldc2 (v := 119183001281906) K (List.mem_cons_of_mem _ mk12_131) d12_bookLineHere_33 ?_
      obtain ⟨r2, μ2, e2, h⟩ := bd_e h
      refine mcall_i K (c12_isWord_ok l D θ N 119183001281906 μ1 _ e2) mG_isWord mh_isWord (by decide) (by decide) rfl (st := []) (Nat.le_of_ble_eq_true rfl) rfl d12_bookLineHere_36 ?_
      refine j_if_eq (tgt := 48) K d12_bookLineHere_39 (by decide) (fun q => ?_) (fun q => ?_)
      · have h := if_t h q
        refine j_aload_n K 0 d12_bookLineHere_48 rfl rfl ?_
        refine j_ldc2 (v := 448310438260) K (List.mem_cons_of_mem _ mk12_239) d12_bookLineHere_49 ?_
        obtain ⟨r3, μ3, e3, h⟩ := bd_e h
        refine mcall_i K (c12_isWord_ok l D θ N 448310438260 μ2 _ e3) mG_isWord mh_isWord (by decide) (by decide) rfl (st := []) (Nat.le_of_ble_eq_true rfl) rfl d12_bookLineHere_52 ?_
        refine j_if_eq (tgt := 66) K d12_bookLineHere_55 (by decide) (fun q => ?_) (fun q => ?_)
        · have h := if_t h q
          refine j_aload_n K 0 d12_bookLineHere_66 rfl rfl ?_
          obtain ⟨r4, μ4, e4, h⟩ := bd_e h
          refine mcall_i K (c12_isHangsHere_ok l D θ N  μ3 _ e4) mG_isHangsHere mh_isHangsHere (by decide) (by decide) rfl (st := []) (Nat.le_of_ble_eq_true rfl) rfl d12_bookLineHere_67 ?_
          obtain ⟨q5, h⟩ := ck_e h
          exact mret_z K h (b01_e q5) hr hlk d12_bookLineHere_70
        · have h := if_f h q
          refine j_aload_n K 0 d12_bookLineHere_58 rfl rfl ?_
          refine j_iload_n K 1 d12_bookLineHere_59 rfl rfl ?_
          obtain ⟨r6, μ6, e6, h⟩ := bd_e h
          refine mcall_i K (c12_isHabitHere_ok l D θ N a1 μ3 _ e6) mG_isHabitHere mh_isHabitHere (by decide) (by decide) rfl (st := []) (Nat.le_of_ble_eq_true rfl) rfl d12_bookLineHere_60 ?_
          refine j_goto (tgt := 70) K d12_bookLineHere_63 (by decide) ?_
          obtain ⟨q7, h⟩ := ck_e h
          exact mret_z K h (b01_e q7) hr hlk d12_bookLineHere_70
      · have h := if_f h q
        refine j_aload_n K 0 d12_bookLineHere_42 rfl rfl ?_
        refine j_iload_n K 1 d12_bookLineHere_43 rfl rfl ?_
        obtain ⟨r8, μ8, e8, h⟩ := bd_e h
        refine mcall_i K (c12_isLetterHere_ok l D θ N a1 μ2 _ e8) mG_isLetterHere mh_isLetterHere (by decide) (by decide) rfl (st := []) (Nat.le_of_ble_eq_true rfl) rfl d12_bookLineHere_44 ?_
        obtain ⟨q9, h⟩ := ck_e h
        exact mret_z K h (b01_e q9) hr hlk d12_bookLineHere_47
    · have h := if_t h q
      refine j_aload_n K 0 d12_bookLineHere_25 rfl rfl ?_
      refine j_iconst (v := 4) K d12_bookLineHere_26 (by decide) ?_
      refine j_iload_n K 1 d12_bookLineHere_27 rfl rfl ?_
      obtain ⟨r10, μ10, e10, h⟩ := bd_e h
      refine mcall_i K (c12_fails_ok l D θ N 4 a1 μ1 _ e10) mG_fails mh_fails (by decide) (by decide) rfl (st := []) (Nat.le_of_ble_eq_true rfl) rfl d12_bookLineHere_28 ?_
      obtain ⟨q11, h⟩ := ck_e h
      exact mret_z K h (b01_e q11) hr hlk d12_bookLineHere_31
  · have h := if_f h q
    refine j_aload_n K 0 d12_bookLineHere_10 rfl rfl ?_
    refine j_iload_n K 1 d12_bookLineHere_11 rfl rfl ?_
    obtain ⟨r12, μ12, e12, h⟩ := bd_e h
    refine mcall_i K (c12_isBookHere_ok l D θ N a1 μ1 _ e12) mG_isBookHere mh_isBookHere (by decide) (by decide) rfl (st := []) (Nat.le_of_ble_eq_true rfl) rfl d12_bookLineHere_12 ?_
    obtain ⟨q13, h⟩ := ck_e h
    exact mret_z K h (b01_e q13) hr hlk d12_bookLineHere_15
def b12_sumOf_4 (N : Nat) : Nat → Int32 → Int32 → Int32 → Mz → Option (Int64 × Mz)
  | 0, _, _, _, _ => none
  | n + 1, x1, x2, x3, μ => if (ga 7 μ (3 : Int32).toNatClampNeg) ≤ x3 then lt (x1.toInt64) (fun v1 => lt (sl 1 (vp_updL (gl 1 μ) (0 : Int32).toNatClampNeg v1) μ) (fun μ2 => lt (13 + x1) (fun v3 => ck (inb v3 129) (lt ((ga 7 μ2 v3.toNatClampNeg).toInt64) (fun v5 => lt (sl 1 (vp_updL (gl 1 μ2) (1 : Int32).toNatClampNeg v5) μ2) (fun μ6 => lt (43 + x1) (fun v7 => ck (inb v7 129) (lt ((ga 7 μ6 v7.toNatClampNeg).toInt64) (fun v9 => lt (sl 1 (vp_updL (gl 1 μ6) (2 : Int32).toNatClampNeg v9) μ6) (fun μ10 => lt (x2.toInt64) (fun v11 => lt (sl 1 (vp_updL (gl 1 μ10) (3 : Int32).toNatClampNeg v11) μ10) (fun μ12 => bd (p12_looseOnes N  μ12) (fun r13 μ13 => bo (p12_bits N r13) (fun r14 => lt (r14.toInt64) (fun v15 => lt (sl 1 (vp_updL (gl 1 μ13) (4 : Int32).toNatClampNeg v15) μ13) (fun μ16 => bd (p12_wrongOnes N  μ16) (fun r17 μ17 => bo (p12_bits N r17) (fun r18 => lt (r18.toInt64) (fun v19 => lt (sl 1 (vp_updL (gl 1 μ17) (5 : Int32).toNatClampNeg v19) μ17) (fun μ20 => lt (23 + x1) (fun v21 => ck (inb v21 129) (lt ((ga 7 μ20 v21.toNatClampNeg).toInt64) (fun v23 => lt (sl 1 (vp_updL (gl 1 μ20) (6 : Int32).toNatClampNeg v23) μ20) (fun μ24 => lt ((ga 7 μ24 (11 : Int32).toNatClampNeg).toInt64) (fun v25 => lt (sl 1 (vp_updL (gl 1 μ24) (7 : Int32).toNatClampNeg v25) μ24) (fun μ26 => lt ((ga 7 μ26 (12 : Int32).toNatClampNeg).toInt64) (fun v27 => lt (sl 1 (vp_updL (gl 1 μ26) (8 : Int32).toNatClampNeg v27) μ26) (fun μ28 => bd (p12_fromOn N (ga 7 μ28 (10 : Int32).toNatClampNeg) μ28) (fun r29 μ29 => lt (r29.toInt64) (fun v30 => lt (sl 1 (vp_updL (gl 1 μ29) (9 : Int32).toNatClampNeg v30) μ29) (fun μ31 => bd (p12_toOn N (ga 7 μ31 (10 : Int32).toNatClampNeg) μ31) (fun r32 μ32 => lt (r32.toInt64) (fun v33 => lt (sl 1 (vp_updL (gl 1 μ32) (10 : Int32).toNatClampNeg v33) μ32) (fun μ34 => lt ((ga 7 μ34 (10 : Int32).toNatClampNeg).toInt64) (fun v35 => lt (sl 1 (vp_updL (gl 1 μ34) (11 : Int32).toNatClampNeg v35) μ34) (fun μ36 => bd (p12_summedBy N (gi 11 μ36) μ36) (fun r37 μ37 => some (r37, μ37)))))))))))))))))))))))))))))))))))))) else bd (p12_isWrong N x3 μ) (fun r38 μ38 => if r38 = 0 then lt (x2 + 0) (fun v39 => lt (x3 + 1) (fun v40 => b12_sumOf_4 N n x1 v39 v40 μ38)) else lt (33 + x3) (fun v41 => ck (inb v41 129) (bo (p12_isOf N (ga 7 μ38 v41.toNatClampNeg) x1) (fun r43 => if r43 = 0 then lt (x2 + 0) (fun v44 => lt (x3 + 1) (fun v45 => b12_sumOf_4 N n x1 v44 v45 μ38)) else lt (x2 + 1) (fun v46 => lt (x3 + 1) (fun v47 => b12_sumOf_4 N n x1 v46 v47 μ38))))))
set_option maxHeartbeats 4000000 in
set_option maxRecDepth 100000 in
theorem t12_sumOf_4 {p : Program} {l : Launch} {e : Env} {s : State} {m : MethodId} {args : Array Value} {below : List Frame} {meth : Method} {c : Code} {D : va_G} {θ : Th} {A : Nat → Prop} (K : KM p s m args c c12_sumOf 4 y12_sumOf (some .long) D θ A) (hr : meth.sig.returnType = (some .long)) (hlk : meth.locks = false) (N : Nat) (ρ : Int64 × Mz) : ∀ (n : Nat) (x1 : Int32) (x2 : Int32) (x3 : Int32) (μ : Mz), b12_sumOf_4 N n x1 x2 x3 μ = some ρ → JM p l e s m args below meth c D θ A 5 4 (QMl below args s D θ A ρ) μ [(0, .ref θ.1), (1, .int x1), (2, .int x2), (3, .int x3)] [] 4 := by
  intro n
  induction n with
  | zero =>
    intro x1 x2 x3 μ h
    exact absurd h (by simp [b12_sumOf_4])
  | succ n ih =>
    intro x1 x2 x3 μ h
    rw [b12_sumOf_4] at h
    refine j_iload_n K 3 d12_sumOf_4 rfl rfl ?_
    refine j_aload_n K 0 d12_sumOf_5 rfl rfl ?_
    refine mg_said K d12_sumOf_6 ?_
    refine j_iconst (v := 3) K d12_sumOf_9 (by decide) ?_
    refine ml_said K (inb_e (by decide)) d12_sumOf_10 ?_
    refine j_icmp_ge (tgt := 52) K d12_sumOf_11 (by decide) (fun q => ?_) (fun q => ?_)
    · have h := if_t h q
      refine j_aload_n K 0 d12_sumOf_52 rfl rfl ?_
      refine mg_word K d12_sumOf_53 ?_
      refine j_iconst (v := 0) K d12_sumOf_56 (by decide) ?_
      refine j_iload_n K 1 d12_sumOf_57 rfl rfl ?_
      refine j_i2l K d12_sumOf_58 ?_
      obtain ⟨v1, e1, h⟩ := lt_e h
      refine j_eql e1 ?_
      obtain ⟨μ2, e2, h⟩ := lt_e h
      refine ms_word K (inb_e (by decide)) d12_sumOf_59 e2 ?_
      refine j_aload_n K 0 d12_sumOf_60 rfl rfl ?_
      refine mg_word K d12_sumOf_61 ?_
      refine j_iconst (v := 1) K d12_sumOf_64 (by decide) ?_
      refine j_aload_n K 0 d12_sumOf_65 rfl rfl ?_
      refine mg_said K d12_sumOf_66 ?_
      refine j_bipush (v := 13) K d12_sumOf_69 (by decide) ?_
      refine j_iload_n K 1 d12_sumOf_71 rfl rfl ?_
      refine j_iadd K d12_sumOf_72 ?_
      obtain ⟨v3, e3, h⟩ := lt_e h
      refine j_eqi e3 ?_
      obtain ⟨q4, h⟩ := ck_e h
      refine ml_said K (inb_e q4) d12_sumOf_73 ?_
      refine j_i2l K d12_sumOf_74 ?_
      obtain ⟨v5, e5, h⟩ := lt_e h
      refine j_eql e5 ?_
      obtain ⟨μ6, e6, h⟩ := lt_e h
      refine ms_word K (inb_e (by decide)) d12_sumOf_75 e6 ?_
      refine j_aload_n K 0 d12_sumOf_76 rfl rfl ?_
      refine mg_word K d12_sumOf_77 ?_
      refine j_iconst (v := 2) K d12_sumOf_80 (by decide) ?_
      refine j_aload_n K 0 d12_sumOf_81 rfl rfl ?_
      refine mg_said K d12_sumOf_82 ?_
      refine j_bipush (v := 43) K d12_sumOf_85 (by decide) ?_
      refine j_iload_n K 1 d12_sumOf_87 rfl rfl ?_
      refine j_iadd K d12_sumOf_88 ?_
      obtain ⟨v7, e7, h⟩ := lt_e h
      refine j_eqi e7 ?_
      obtain ⟨q8, h⟩ := ck_e h
      refine ml_said K (inb_e q8) d12_sumOf_89 ?_
      refine j_i2l K d12_sumOf_90 ?_
      obtain ⟨v9, e9, h⟩ := lt_e h
      refine j_eql e9 ?_
      obtain ⟨μ10, e10, h⟩ := lt_e h
      refine ms_word K (inb_e (by decide)) d12_sumOf_91 e10 ?_
      refine j_aload_n K 0 d12_sumOf_92 rfl rfl ?_
      refine mg_word K d12_sumOf_93 ?_
      refine j_iconst (v := 3) K d12_sumOf_96 (by decide) ?_
      refine j_iload_n K 2 d12_sumOf_97 rfl rfl ?_
      refine j_i2l K d12_sumOf_98 ?_
      obtain ⟨v11, e11, h⟩ := lt_e h
      refine j_eql e11 ?_
      obtain ⟨μ12, e12, h⟩ := lt_e h
      refine ms_word K (inb_e (by decide)) d12_sumOf_99 e12 ?_
      refine j_aload_n K 0 d12_sumOf_100 rfl rfl ?_
      refine mg_word K d12_sumOf_101 ?_
      refine j_iconst (v := 4) K d12_sumOf_104 (by decide) ?_
      refine j_aload_n K 0 d12_sumOf_105 rfl rfl ?_
      obtain ⟨r13, μ13, e13, h⟩ := bd_e h
      refine mcall_i K (c12_looseOnes_ok l D θ N  μ12 _ e13) mG_looseOnes mh_looseOnes (by decide) (by decide) rfl (st := [.int 4, .ref (θ.2.1 8)]) (Nat.le_of_ble_eq_true rfl) rfl d12_sumOf_106 ?_
      obtain ⟨r14, e14, h⟩ := bo_e h
      refine mcalls_i K (c12_bits_ok l D θ N r13 _ e14) mG_bits mh_bits (by decide) (by decide) rfl (st := [.int 4, .ref (θ.2.1 8)]) (Nat.le_of_ble_eq_true rfl) rfl d12_sumOf_109 ?_
      refine j_i2l K d12_sumOf_112 ?_
      obtain ⟨v15, e15, h⟩ := lt_e h
      refine j_eql e15 ?_
      obtain ⟨μ16, e16, h⟩ := lt_e h
      refine ms_word K (inb_e (by decide)) d12_sumOf_113 e16 ?_
      refine j_aload_n K 0 d12_sumOf_114 rfl rfl ?_
      refine mg_word K d12_sumOf_115 ?_
      refine j_iconst (v := 5) K d12_sumOf_118 (by decide) ?_
      refine j_aload_n K 0 d12_sumOf_119 rfl rfl ?_
      obtain ⟨r17, μ17, e17, h⟩ := bd_e h
      refine mcall_i K (c12_wrongOnes_ok l D θ N  μ16 _ e17) mG_wrongOnes mh_wrongOnes (by decide) (by decide) rfl (st := [.int 5, .ref (θ.2.1 8)]) (Nat.le_of_ble_eq_true rfl) rfl d12_sumOf_120 ?_
      obtain ⟨r18, e18, h⟩ := bo_e h
      refine mcalls_i K (c12_bits_ok l D θ N r17 _ e18) mG_bits mh_bits (by decide) (by decide) rfl (st := [.int 5, .ref (θ.2.1 8)]) (Nat.le_of_ble_eq_true rfl) rfl d12_sumOf_123 ?_
      refine j_i2l K d12_sumOf_126 ?_
      obtain ⟨v19, e19, h⟩ := lt_e h
      refine j_eql e19 ?_
      obtain ⟨μ20, e20, h⟩ := lt_e h
      refine ms_word K (inb_e (by decide)) d12_sumOf_127 e20 ?_
      refine j_aload_n K 0 d12_sumOf_128 rfl rfl ?_
      refine mg_word K d12_sumOf_129 ?_
      refine j_bipush (v := 6) K d12_sumOf_132 (by decide) ?_
      refine j_aload_n K 0 d12_sumOf_134 rfl rfl ?_
      refine mg_said K d12_sumOf_135 ?_
      refine j_bipush (v := 23) K d12_sumOf_138 (by decide) ?_
      refine j_iload_n K 1 d12_sumOf_140 rfl rfl ?_
      refine j_iadd K d12_sumOf_141 ?_
      obtain ⟨v21, e21, h⟩ := lt_e h
      refine j_eqi e21 ?_
      obtain ⟨q22, h⟩ := ck_e h
      refine ml_said K (inb_e q22) d12_sumOf_142 ?_
      refine j_i2l K d12_sumOf_143 ?_
      obtain ⟨v23, e23, h⟩ := lt_e h
      refine j_eql e23 ?_
      obtain ⟨μ24, e24, h⟩ := lt_e h
      refine ms_word K (inb_e (by decide)) d12_sumOf_144 e24 ?_
      refine j_aload_n K 0 d12_sumOf_145 rfl rfl ?_
      refine mg_word K d12_sumOf_146 ?_
      refine j_bipush (v := 7) K d12_sumOf_149 (by decide) ?_
      refine j_aload_n K 0 d12_sumOf_151 rfl rfl ?_
      refine mg_said K d12_sumOf_152 ?_
      refine j_bipush (v := 11) K d12_sumOf_155 (by decide) ?_
      refine ml_said K (inb_e (by decide)) d12_sumOf_157 ?_
      refine j_i2l K d12_sumOf_158 ?_
      obtain ⟨v25, e25, h⟩ := lt_e h
      refine j_eql e25 ?_
      obtain ⟨μ26, e26, h⟩ := lt_e h
      refine ms_word K (inb_e (by decide)) d12_sumOf_159 e26 ?_
      refine j_aload_n K 0 d12_sumOf_160 rfl rfl ?_
      refine mg_word K d12_sumOf_161 ?_
      refine j_bipush (v := 8) K d12_sumOf_164 (by decide) ?_
      refine j_aload_n K 0 d12_sumOf_166 rfl rfl ?_
      refine mg_said K d12_sumOf_167 ?_
      refine j_bipush (v := 12) K d12_sumOf_170 (by decide) ?_
      refine ml_said K (inb_e (by decide)) d12_sumOf_172 ?_
      refine j_i2l K d12_sumOf_173 ?_
      obtain ⟨v27, e27, h⟩ := lt_e h
      refine j_eql e27 ?_
      obtain ⟨μ28, e28, h⟩ := lt_e h
      refine ms_word K (inb_e (by decide)) d12_sumOf_174 e28 ?_
      refine j_aload_n K 0 d12_sumOf_175 rfl rfl ?_
      refine mg_word K d12_sumOf_176 ?_
      refine j_bipush (v := 9) K d12_sumOf_179 (by decide) ?_
      refine j_aload_n K 0 d12_sumOf_181 rfl rfl ?_
      refine j_aload_n K 0 d12_sumOf_182 rfl rfl ?_
      refine mg_said K d12_sumOf_183 ?_
      refine j_bipush (v := 10) K d12_sumOf_186 (by decide) ?_
      refine ml_said K (inb_e (by decide)) d12_sumOf_188 ?_
      obtain ⟨r29, μ29, e29, h⟩ := bd_e h
      refine mcall_i K (c12_fromOn_ok l D θ N (ga 7 μ28 (10 : Int32).toNatClampNeg) μ28 _ e29) mG_fromOn mh_fromOn (by decide) (by decide) rfl (st := [.int 9, .ref (θ.2.1 8)]) (Nat.le_of_ble_eq_true rfl) rfl d12_sumOf_189 ?_
      refine j_i2l K d12_sumOf_192 ?_
      obtain ⟨v30, e30, h⟩ := lt_e h
      refine j_eql e30 ?_
      obtain ⟨μ31, e31, h⟩ := lt_e h
      refine ms_word K (inb_e (by decide)) d12_sumOf_193 e31 ?_
      refine j_aload_n K 0 d12_sumOf_194 rfl rfl ?_
      refine mg_word K d12_sumOf_195 ?_
      refine j_bipush (v := 10) K d12_sumOf_198 (by decide) ?_
      refine j_aload_n K 0 d12_sumOf_200 rfl rfl ?_
      refine j_aload_n K 0 d12_sumOf_201 rfl rfl ?_
      refine mg_said K d12_sumOf_202 ?_
      refine j_bipush (v := 10) K d12_sumOf_205 (by decide) ?_
      refine ml_said K (inb_e (by decide)) d12_sumOf_207 ?_
      obtain ⟨r32, μ32, e32, h⟩ := bd_e h
      refine mcall_i K (c12_toOn_ok l D θ N (ga 7 μ31 (10 : Int32).toNatClampNeg) μ31 _ e32) mG_toOn mh_toOn (by decide) (by decide) rfl (st := [.int 10, .ref (θ.2.1 8)]) (Nat.le_of_ble_eq_true rfl) rfl d12_sumOf_208 ?_
      refine j_i2l K d12_sumOf_211 ?_
      obtain ⟨v33, e33, h⟩ := lt_e h
      refine j_eql e33 ?_
      obtain ⟨μ34, e34, h⟩ := lt_e h
      refine ms_word K (inb_e (by decide)) d12_sumOf_212 e34 ?_
      refine j_aload_n K 0 d12_sumOf_213 rfl rfl ?_
      refine mg_word K d12_sumOf_214 ?_
      refine j_bipush (v := 11) K d12_sumOf_217 (by decide) ?_
      refine j_aload_n K 0 d12_sumOf_219 rfl rfl ?_
      refine mg_said K d12_sumOf_220 ?_
      refine j_bipush (v := 10) K d12_sumOf_223 (by decide) ?_
      refine ml_said K (inb_e (by decide)) d12_sumOf_225 ?_
      refine j_i2l K d12_sumOf_226 ?_
      obtain ⟨v35, e35, h⟩ := lt_e h
      refine j_eql e35 ?_
      obtain ⟨μ36, e36, h⟩ := lt_e h
      refine ms_word K (inb_e (by decide)) d12_sumOf_227 e36 ?_
      refine j_aload_n K 0 d12_sumOf_228 rfl rfl ?_
      refine j_aload_n K 0 d12_sumOf_229 rfl rfl ?_
      refine mg_force K d12_sumOf_230 ?_
      obtain ⟨r37, μ37, e37, h⟩ := bd_e h
      refine mcall_l K (c12_summedBy_ok l D θ N (gi 11 μ36) μ36 _ e37) mG_summedBy mh_summedBy (by decide) (by decide) rfl (st := []) (Nat.le_of_ble_eq_true rfl) rfl d12_sumOf_233 ?_
      exact mret_l K h hr hlk d12_sumOf_236
    · have h := if_f h q
      refine j_iload_n K 2 d12_sumOf_14 rfl rfl ?_
      refine j_aload_n K 0 d12_sumOf_15 rfl rfl ?_
      refine j_iload_n K 3 d12_sumOf_16 rfl rfl ?_
      obtain ⟨r38, μ38, e38, h⟩ := bd_e h
      refine mcall_i K (c12_isWrong_ok l D θ N x3 μ _ e38) mG_isWrong mh_isWrong (by decide) (by decide) rfl (st := [.int x2]) (Nat.le_of_ble_eq_true rfl) rfl d12_sumOf_17 ?_
      refine j_if_eq (tgt := 43) K d12_sumOf_20 (by decide) (fun q => ?_) (fun q => ?_)
      · have h := if_t h q
        refine j_iconst (v := 0) K d12_sumOf_43 (by decide) ?_
        refine j_iadd K d12_sumOf_44 ?_
        obtain ⟨v39, e39, h⟩ := lt_e h
        refine j_eqi e39 ?_
        refine j_istore_n (lv' := [(2, .int v39), (0, .ref θ.1), (1, .int x1), (3, .int x3)]) K d12_sumOf_45 rfl (by decide) rfl ?_
        obtain ⟨v40, e40, h⟩ := lt_e h
        refine j_iinc (k := 3) (v := v40) (lv' := [(3, .int v40), (2, .int v39), (0, .ref θ.1), (1, .int x1)]) K d12_sumOf_46 rfl (by rw [e40]; rfl) (by decide) rfl ?_
        refine j_goto (tgt := 4) K d12_sumOf_49 (by decide) ?_
        refine j_sub [2, 3, 1, 0] rfl ?_
        exact ih x1 v39 v40 μ38 h
      · have h := if_f h q
        refine j_aload_n K 0 d12_sumOf_23 rfl rfl ?_
        refine mg_said K d12_sumOf_24 ?_
        refine j_bipush (v := 33) K d12_sumOf_27 (by decide) ?_
        refine j_iload_n K 3 d12_sumOf_29 rfl rfl ?_
        refine j_iadd K d12_sumOf_30 ?_
        obtain ⟨v41, e41, h⟩ := lt_e h
        refine j_eqi e41 ?_
        obtain ⟨q42, h⟩ := ck_e h
        refine ml_said K (inb_e q42) d12_sumOf_31 ?_
        refine j_iload_n K 1 d12_sumOf_32 rfl rfl ?_
        obtain ⟨r43, e43, h⟩ := bo_e h
        refine mcalls_i K (c12_isOf_ok l D θ N (ga 7 μ38 v41.toNatClampNeg) x1 _ e43) mG_isOf mh_isOf (by decide) (by decide) rfl (st := [.int x2]) (Nat.le_of_ble_eq_true rfl) rfl d12_sumOf_33 ?_
        refine j_if_eq (tgt := 43) K d12_sumOf_36 (by decide) (fun q => ?_) (fun q => ?_)
        · have h := if_t h q
          refine j_iconst (v := 0) K d12_sumOf_43 (by decide) ?_
          refine j_iadd K d12_sumOf_44 ?_
          obtain ⟨v44, e44, h⟩ := lt_e h
          refine j_eqi e44 ?_
          refine j_istore_n (lv' := [(2, .int v44), (0, .ref θ.1), (1, .int x1), (3, .int x3)]) K d12_sumOf_45 rfl (by decide) rfl ?_
          obtain ⟨v45, e45, h⟩ := lt_e h
          refine j_iinc (k := 3) (v := v45) (lv' := [(3, .int v45), (2, .int v44), (0, .ref θ.1), (1, .int x1)]) K d12_sumOf_46 rfl (by rw [e45]; rfl) (by decide) rfl ?_
          refine j_goto (tgt := 4) K d12_sumOf_49 (by decide) ?_
          refine j_sub [2, 3, 1, 0] rfl ?_
          exact ih x1 v44 v45 μ38 h
        · have h := if_f h q
          refine j_iconst (v := 1) K d12_sumOf_39 (by decide) ?_
          refine j_goto (tgt := 44) K d12_sumOf_40 (by decide) ?_
          refine j_iadd K d12_sumOf_44 ?_
          obtain ⟨v46, e46, h⟩ := lt_e h
          refine j_eqi e46 ?_
          refine j_istore_n (lv' := [(2, .int v46), (0, .ref θ.1), (1, .int x1), (3, .int x3)]) K d12_sumOf_45 rfl (by decide) rfl ?_
          obtain ⟨v47, e47, h⟩ := lt_e h
          refine j_iinc (k := 3) (v := v47) (lv' := [(3, .int v47), (2, .int v46), (0, .ref θ.1), (1, .int x1)]) K d12_sumOf_46 rfl (by rw [e47]; rfl) (by decide) rfl ?_
          refine j_goto (tgt := 4) K d12_sumOf_49 (by decide) ?_
          refine j_sub [2, 3, 1, 0] rfl ?_
          exact ih x1 v46 v47 μ38 h
def p12_sumOf (N : Nat) (a1 : Int32) (μ : Mz) : Option (Int64 × Mz) := b12_sumOf_4 N N a1 0 0 μ
set_option maxHeartbeats 4000000 in
set_option maxRecDepth 100000 in
theorem c12_sumOf_ok (l : Launch) (D : va_G) (θ : Th) (N : Nat) (a1 : Int32) (μ : Mz) (ρ : Int64 × Mz) (h : p12_sumOf N a1 μ = some ρ) : CMl l D θ y12_sumOf c12_sumOf 4 (some .long) 5 [.int a1] μ ρ := by
  intro sz
  refine j_met l [.ref θ.1, .int a1] (by decide +kernel) (Nat.le_of_ble_eq_true rfl) ?_
  intro p e s m args below meth c K hr hlk hnm hs
  generalize va_A (wM θ μ) sz = A at K ⊢
  have K : KM p s m args c c12_sumOf 4 y12_sumOf (some .long) D θ A := K
  show JM p l e s m args below meth c D θ A 5 4 (QMl below args s D θ A ρ) μ [(0, .ref θ.1), (1, .int a1)] [] 0
  unfold p12_sumOf at h
  refine j_iconst (v := 0) K d12_sumOf_0 (by decide) ?_
  refine j_istore_n (lv' := [(2, .int 0), (0, .ref θ.1), (1, .int a1)]) K d12_sumOf_1 rfl (by decide) rfl ?_
  refine j_iconst (v := 0) K d12_sumOf_2 (by decide) ?_
  refine j_istore_n (lv' := [(3, .int 0), (2, .int 0), (0, .ref θ.1), (1, .int a1)]) K d12_sumOf_3 rfl (by decide) rfl ?_
  refine j_sub [2, 3, 1, 0] rfl ?_
  exact t12_sumOf_4 K hr hlk N ρ N a1 0 0 μ h
