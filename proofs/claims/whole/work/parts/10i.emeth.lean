def b_ErrataRow_unpaid_37 (N : Nat) : Nat → Nat → Int32 → Int32 → Cz → Option (Int32 × Cz)
  | 0, _, _, _, _ => none
  | n + 1, x0, x1, x2, κ => if 200 ≤ x2 then some ((-2), κ) else ck (isK κ x0 11) (bo (fr κ x0 12) (fun o13 => ck (isK κ o13 8) (lt (fi κ o13 5) (fun v15 => bo (fr κ x0 10) (fun o16 => bo (fr κ x0 12) (fun o17 => ck (isK κ o16 4) (bd (p_Press_printEdition N o16 o17 κ) (fun r18 κ18 => ck (isK κ18 x0 11) (bo (fr κ18 x0 10) (fun o21 => ck (isK κ18 o21 4) (if (fi κ18 o21 5) = 0 then lt (x2 + 1) (fun v23 => b_ErrataRow_unpaid_37 N n x0 x1 v23 κ18) else if x1 = 0 then some (v15, κ18) else bo (fr κ18 x0 10) (fun o24 => ck (isK κ18 o24 4) (bd (p_Integer_numberOfTrailingZeros N (fi κ18 o24 5) κ18) (fun r26 κ26 => some (r26, κ26)))))))))))))))
set_option maxHeartbeats 4000000 in
set_option maxRecDepth 100000 in
theorem t_ErrataRow_unpaid_37 {p : Program} {l : Launch} {e : Env} {s : State} {m : MethodId} {args : Array Value} {below : List Frame} {meth : Method} {c : Code} {D : va_G} {θ : Tc} {A : Nat → Prop} (K : KE p s m args c c_ErrataRow_unpaid 4 "ErrataRow" y_ErrataRow_unpaid (some .int) D θ A) (hN : NX s) (hr : meth.sig.returnType = (some .int)) (hlk : meth.locks = false) (N : Nat) (ρ : Int32 × Cz) : ∀ (n : Nat) (x0 : Nat) (x1 : Int32) (x2 : Int32) (κ : Cz), b_ErrataRow_unpaid_37 N n x0 x1 x2 κ = some ρ → JE p l e (rmA 6 0 0) s m args below meth c D θ A 4 0 0 (QEi below args s D θ A 0 0 ρ) κ [(0, .ref x0), (1, .int x1), (2, .int x2)] [] 37 := by
  intro n
  induction n with
  | zero =>
    intro x0 x1 x2 κ h
    exact absurd h (by simp [b_ErrataRow_unpaid_37])
  | succ n ih =>
    intro x0 x1 x2 κ h
    rw [b_ErrataRow_unpaid_37] at h
    refine j_iload_n K 2 d_ErrataRow_unpaid_37 rfl rfl ?_
    refine j_sipush (v := 200) K d_ErrataRow_unpaid_38 (by decide) ?_
    refine j_icmp_ge (tgt := 99) K d_ErrataRow_unpaid_41 (by decide) (fun q => ?_) (fun q => ?_)
    · have h := if_t h q
      refine j_bipush (v := (-2)) K d_ErrataRow_unpaid_99 (by decide) ?_
      exact eret_i K h hr hlk d_ErrataRow_unpaid_101
    · have h := if_f h q
      refine j_aload_n K 0 d_ErrataRow_unpaid_44 rfl rfl ?_
      obtain ⟨q12, h⟩ := ck_e h
      refine eg_ErrataRow_trial K ef_ErrataRow_85 q12 d_ErrataRow_unpaid_45 ?_
      obtain ⟨o13, e13, h⟩ := bo_e h
      refine j_eqq e13 ?_
      obtain ⟨q14, h⟩ := ck_e h
      refine eg_State_edition K ef_ErrataRow_179 q14 d_ErrataRow_unpaid_48 ?_
      obtain ⟨v15, e15, h⟩ := lt_e h
      refine j_eqi e15 ?_
      refine j_istore_n (lv' := [(3, .int v15), (0, .ref x0), (1, .int x1), (2, .int x2)]) K d_ErrataRow_unpaid_51 rfl (by decide) rfl ?_
      refine j_aload_n K 1 d_ErrataRow_unpaid_52 rfl rfl ?_
      refine eg_ErrataRow_press K ef_ErrataRow_69 q12 d_ErrataRow_unpaid_53 ?_
      obtain ⟨o16, e16, h⟩ := bo_e h
      refine j_eqq e16 ?_
      refine j_aload_n K 1 d_ErrataRow_unpaid_56 rfl rfl ?_
      refine eg_ErrataRow_trial K ef_ErrataRow_85 q12 d_ErrataRow_unpaid_57 ?_
      obtain ⟨o17, e17, h⟩ := bo_e h
      refine j_eqq e17 ?_
      obtain ⟨q19, h⟩ := ck_e h
      obtain ⟨r18, κ18, e18, h⟩ := bd_e h
      refine ecallV_i K hN (c_Press_printEdition_ok l D θ N o16 o17 κ _ e18) eG_ErrataRow_215 eh_Press_printEdition (by decide) (rmA_ok (by decide) (by decide)) rfl q19 (by decide) rfl (st := []) (Nat.le_of_ble_eq_true rfl) rfl d_ErrataRow_unpaid_60 ⟨Nat.le_of_ble_eq_true rfl, Nat.le_of_ble_eq_true rfl⟩ ?_
      refine j_pop K d_ErrataRow_unpaid_63 rfl ?_
      refine j_aload_n K 1 d_ErrataRow_unpaid_64 rfl rfl ?_
      obtain ⟨q20, h⟩ := ck_e h
      refine eg_ErrataRow_press K ef_ErrataRow_69 q20 d_ErrataRow_unpaid_65 ?_
      obtain ⟨o21, e21, h⟩ := bo_e h
      refine j_eqq e21 ?_
      obtain ⟨q22, h⟩ := ck_e h
      refine eg_Press_notPaid K ef_ErrataRow_262 q22 d_ErrataRow_unpaid_68 ?_
      refine j_if_eq (tgt := 93) K d_ErrataRow_unpaid_71 (by decide) (fun q => ?_) (fun q => ?_)
      · have h := if_t h q
        obtain ⟨v23, e23, h⟩ := lt_e h
        refine j_iinc (k := 3) (v := v23) (lv' := [(2, .int v23), (3, .int v15), (0, .ref x0), (1, .int x1)]) K d_ErrataRow_unpaid_93 rfl (by rw [e23]; rfl) (by decide) rfl ?_
        refine j_goto (tgt := 37) K d_ErrataRow_unpaid_96 (by decide) ?_
        refine j_sub [2, 3, 0] rfl ?_
        exact ih x0 x1 v23 κ18 h
      · have h := if_f h q
        refine j_iload_n K 2 d_ErrataRow_unpaid_74 rfl rfl ?_
        refine j_if_ne (tgt := 82) K d_ErrataRow_unpaid_75 (by decide) (fun q => ?_) (fun q => ?_)
        · have h := if_f h q
          refine j_aload_n K 1 d_ErrataRow_unpaid_82 rfl rfl ?_
          refine eg_ErrataRow_press K ef_ErrataRow_69 q20 d_ErrataRow_unpaid_83 ?_
          obtain ⟨o24, e24, h⟩ := bo_e h
          refine j_eqq e24 ?_
          obtain ⟨q25, h⟩ := ck_e h
          refine eg_Press_notPaid K ef_ErrataRow_262 q25 d_ErrataRow_unpaid_86 ?_
          obtain ⟨r26, κ26, e26, h⟩ := bd_e h
          refine ecallS_i K hN (c_Integer_numberOfTrailingZeros_ok l D θ N (fi κ18 o24 5) κ18 _ e26) eG_ErrataRow_265 eh_Integer_numberOfTrailingZeros (by decide) (rmA_ok (by decide) (by decide)) rfl (st := []) (Nat.le_of_ble_eq_true rfl) rfl d_ErrataRow_unpaid_89 ⟨Nat.le_of_ble_eq_true rfl, Nat.le_of_ble_eq_true rfl⟩ ?_
          exact eret_i K h hr hlk d_ErrataRow_unpaid_92
        · have h := if_t h q
          refine j_iload_n K 0 d_ErrataRow_unpaid_78 rfl rfl ?_
          refine j_goto (tgt := 92) K d_ErrataRow_unpaid_79 (by decide) ?_
          exact eret_i K h hr hlk d_ErrataRow_unpaid_92
def p_ErrataRow_unpaid (N : Nat) (this : Nat) (a1 : Int32) (κ : Cz) : Option (Int32 × Cz) := ck (isK κ this 11) (bo (fr κ this 7) (fun o2 => ck (isK κ o2 10) (bo (fr κ o2 0) (fun o4 => ck (isK κ o4 0) (if (fi κ o4 0) = 0 then some ((-1), κ) else bd (p_ErrataRow_within N a1 0 1 κ) (fun r6 κ6 => if r6 = 0 then some ((-1), κ6) else ck (isK κ6 this 11) (bo (fr κ6 this 7) (fun o8 => ck (isK κ6 o8 10) (bo (fr κ6 o8 1) (fun o10 => bo (p_ErrataRow_startFrom N this o10 κ6) (fun κ11 => b_ErrataRow_unpaid_37 N N this a1 0 κ11)))))))))))
set_option maxHeartbeats 4000000 in
set_option maxRecDepth 100000 in
theorem c_ErrataRow_unpaid_ok (l : Launch) (D : va_G) (θ : Tc) (N : Nat) (this : Nat) (a1 : Int32) (κ : Cz) (ρ : Int32 × Cz) (h : p_ErrataRow_unpaid N this a1 κ = some ρ) : CEi l D θ y_ErrataRow_unpaid c_ErrataRow_unpaid 4 (some .int) 6 0 0 [.ref this, .int a1] κ ρ := by
  intro sz
  refine e_met l [.ref this, .int a1] (by decide +kernel) (Nat.le_of_ble_eq_true rfl) ?_
  intro p e s m args below meth c K hN hr hlk hnm hs
  generalize va_A (wE θ κ) sz = A at K ⊢
  have K : KE p s m args c c_ErrataRow_unpaid 4 "ErrataRow" y_ErrataRow_unpaid (some .int) D θ A := K
  show JE p l e (rmA 6 0 0) s m args below meth c D θ A 4 0 0 (QEi below args s D θ A 0 0 ρ) κ [(0, .ref this), (1, .int a1)] [] 0
  unfold p_ErrataRow_unpaid at h
  refine j_aload_n K 0 d_ErrataRow_unpaid_0 rfl rfl ?_
  obtain ⟨q1, h⟩ := ck_e h
  refine eg_ErrataRow_world K ef_ErrataRow_45 q1 d_ErrataRow_unpaid_1 ?_
  obtain ⟨o2, e2, h⟩ := bo_e h
  refine j_eqq e2 ?_
  obtain ⟨q3, h⟩ := ck_e h
  refine eg_World_book K ef_ErrataRow_62 q3 d_ErrataRow_unpaid_4 ?_
  obtain ⟨o4, e4, h⟩ := bo_e h
  refine j_eqq e4 ?_
  obtain ⟨q5, h⟩ := ck_e h
  refine eg_Book_told K ef_ErrataRow_160 q5 d_ErrataRow_unpaid_7 ?_
  refine j_if_eq (tgt := 22) K d_ErrataRow_unpaid_10 (by decide) (fun q => ?_) (fun q => ?_)
  · have h := if_t h q
    refine j_iconst (v := (-1)) K d_ErrataRow_unpaid_22 (by decide) ?_
    exact eret_i K h hr hlk d_ErrataRow_unpaid_23
  · have h := if_f h q
    refine j_iload_n K 1 d_ErrataRow_unpaid_13 rfl rfl ?_
    refine j_iconst (v := 0) K d_ErrataRow_unpaid_14 (by decide) ?_
    refine j_iconst (v := 1) K d_ErrataRow_unpaid_15 (by decide) ?_
    obtain ⟨r6, κ6, e6, h⟩ := bd_e h
    refine ecallS_i K hN (c_ErrataRow_within_ok l D θ N a1 0 1 κ _ e6) eG_ErrataRow_166 eh_ErrataRow_within (by decide) (rmA_ok (by decide) (by decide)) rfl (st := []) (Nat.le_of_ble_eq_true rfl) rfl d_ErrataRow_unpaid_16 ⟨Nat.le_of_ble_eq_true rfl, Nat.le_of_ble_eq_true rfl⟩ ?_
    refine j_if_ne (tgt := 24) K d_ErrataRow_unpaid_19 (by decide) (fun q => ?_) (fun q => ?_)
    · have h := if_f h q
      refine j_aload_n K 0 d_ErrataRow_unpaid_24 rfl rfl ?_
      refine j_aload_n K 0 d_ErrataRow_unpaid_25 rfl rfl ?_
      obtain ⟨q7, h⟩ := ck_e h
      refine eg_ErrataRow_world K ef_ErrataRow_45 q7 d_ErrataRow_unpaid_26 ?_
      obtain ⟨o8, e8, h⟩ := bo_e h
      refine j_eqq e8 ?_
      obtain ⟨q9, h⟩ := ck_e h
      refine eg_World_now K ef_ErrataRow_145 q9 d_ErrataRow_unpaid_29 ?_
      obtain ⟨o10, e10, h⟩ := bo_e h
      refine j_eqq e10 ?_
      obtain ⟨κ11, e11, h⟩ := bo_e h
      refine ecallV_v K hN (c_ErrataRow_startFrom_ok l D θ N this o10 κ6 _ e11) eG_ErrataRow_252 eh_ErrataRow_startFrom (by decide) (rmA_ok (by decide) (by decide)) rfl q7 (by decide) rfl (st := []) (Nat.le_of_ble_eq_true rfl) rfl d_ErrataRow_unpaid_32 ⟨Nat.le_of_ble_eq_true rfl, Nat.le_of_ble_eq_true rfl⟩ ?_
      refine j_iconst (v := 0) K d_ErrataRow_unpaid_35 (by decide) ?_
      refine j_istore_n (lv' := [(2, .int 0), (0, .ref this), (1, .int a1)]) K d_ErrataRow_unpaid_36 rfl (by decide) rfl ?_
      refine j_sub [1, 2, 0] rfl ?_
      exact t_ErrataRow_unpaid_37 K hN hr hlk N ρ N this a1 0 κ11 h
    · have h := if_t h q
      refine j_iconst (v := (-1)) K d_ErrataRow_unpaid_22 (by decide) ?_
      exact eret_i K h hr hlk d_ErrataRow_unpaid_23
def b_ErrataRow_ring_99 (N : Nat) (k90 : Nat → Int32 → Int32 → Int32 → Cz → Option (Int32 × Cz)) : Nat → Nat → Int32 → Int32 → Int32 → Int32 → Cz → Option (Int32 × Cz)
  | 0, _, _, _, _, _, _ => none
  | n + 1, x0, x1, x2, x3, x4, κ => if 60 < (x3 + x4) then lt (x3 + 1) (fun v18 => k90 x0 x1 x2 v18 κ) else ck (isK κ x0 11) (bo (fr κ x0 14) (fun o20 => ck (isK κ o20 20) (ck (inb x3 (ln κ o20)) (bo (fr κ x0 14) (fun o23 => lt (x3 + x4) (fun v24 => ck (isK κ o23 20) (ck (inb v24 (ln κ o23)) (if (ai κ o20 x3.toNatClampNeg) = (ai κ o23 v24.toNatClampNeg) then if x1 = 0 then bo (fr κ x0 7) (fun o28 => ck (isK κ o28 10) (bo (fr κ o28 1) (fun o30 => ck (isK κ o30 8) (some ((fi κ o30 5) + x3, κ))))) else some (x4, κ) else lt (x4 + x2) (fun v27 => b_ErrataRow_ring_99 N k90 n x0 x1 x2 x3 v27 κ)))))))))
set_option maxHeartbeats 4000000 in
set_option maxRecDepth 100000 in
theorem t_ErrataRow_ring_99 {p : Program} {l : Launch} {e : Env} {s : State} {m : MethodId} {args : Array Value} {below : List Frame} {meth : Method} {c : Code} {D : va_G} {θ : Tc} {A : Nat → Prop} (K : KE p s m args c c_ErrataRow_ring 5 "ErrataRow" y_ErrataRow_ring (some .int) D θ A) (hN : NX s) (hr : meth.sig.returnType = (some .int)) (hlk : meth.locks = false) (N : Nat) (ρ : Int32 × Cz) (k90 : Nat → Int32 → Int32 → Int32 → Cz → Option (Int32 × Cz)) (hk90 : ∀ (x0 : Nat) (x1 : Int32) (x2 : Int32) (x3 : Int32) (κ : Cz), k90 x0 x1 x2 x3 κ = some ρ → JE p l e (rmA 6 0 0) s m args below meth c D θ A 5 0 0 (QEi below args s D θ A 0 0 ρ) κ [(0, .ref x0), (1, .int x1), (2, .int x2), (3, .int x3)] [] 90) : ∀ (n : Nat) (x0 : Nat) (x1 : Int32) (x2 : Int32) (x3 : Int32) (x4 : Int32) (κ : Cz), b_ErrataRow_ring_99 N k90 n x0 x1 x2 x3 x4 κ = some ρ → JE p l e (rmA 6 0 0) s m args below meth c D θ A 5 0 0 (QEi below args s D θ A 0 0 ρ) κ [(0, .ref x0), (1, .int x1), (2, .int x2), (3, .int x3), (4, .int x4)] [] 99 := by
  intro n
  induction n with
  | zero =>
    intro x0 x1 x2 x3 x4 κ h
    exact absurd h (by simp [b_ErrataRow_ring_99])
  | succ n ih =>
    intro x0 x1 x2 x3 x4 κ h
    rw [b_ErrataRow_ring_99] at h
    refine j_iload_n K 3 d_ErrataRow_ring_99 rfl rfl ?_
    refine j_iload K 4 d_ErrataRow_ring_100 rfl ?_
    refine j_iadd K d_ErrataRow_ring_102 ?_
    refine j_bipush (v := 60) K d_ErrataRow_ring_103 (by decide) ?_
    refine j_icmp_gt (tgt := 157) K d_ErrataRow_ring_105 (by decide) (fun q => ?_) (fun q => ?_)
    · have h := if_t h q
      obtain ⟨v18, e18, h⟩ := lt_e h
      refine j_iinc (k := 3) (v := v18) (lv' := [(3, .int v18), (0, .ref x0), (1, .int x1), (2, .int x2), (4, .int x4)]) K d_ErrataRow_ring_157 rfl (by rw [e18]; rfl) (by decide) rfl ?_
      refine j_goto (tgt := 90) K d_ErrataRow_ring_160 (by decide) ?_
      refine j_sub [1, 2, 3, 0] rfl ?_
      exact hk90 x0 x1 x2 v18 κ h
    · have h := if_f h q
      refine j_aload_n K 0 d_ErrataRow_ring_108 rfl rfl ?_
      obtain ⟨q19, h⟩ := ck_e h
      refine eg_ErrataRow_scratch K ef_ErrataRow_92 q19 d_ErrataRow_ring_109 ?_
      obtain ⟨o20, e20, h⟩ := bo_e h
      refine j_eqq e20 ?_
      refine j_iload_n K 3 d_ErrataRow_ring_112 rfl rfl ?_
      obtain ⟨q21, h⟩ := ck_e h
      obtain ⟨q22, h⟩ := ck_e h
      refine e_iald K q21 (inb_e q22) d_ErrataRow_ring_113 ?_
      refine j_aload_n K 0 d_ErrataRow_ring_114 rfl rfl ?_
      refine eg_ErrataRow_scratch K ef_ErrataRow_92 q19 d_ErrataRow_ring_115 ?_
      obtain ⟨o23, e23, h⟩ := bo_e h
      refine j_eqq e23 ?_
      refine j_iload_n K 3 d_ErrataRow_ring_118 rfl rfl ?_
      refine j_iload K 4 d_ErrataRow_ring_119 rfl ?_
      refine j_iadd K d_ErrataRow_ring_121 ?_
      obtain ⟨v24, e24, h⟩ := lt_e h
      refine j_eqi e24 ?_
      obtain ⟨q25, h⟩ := ck_e h
      obtain ⟨q26, h⟩ := ck_e h
      refine e_iald K q25 (inb_e q26) d_ErrataRow_ring_122 ?_
      refine j_icmp_ne (tgt := 148) K d_ErrataRow_ring_123 (by decide) (fun q => ?_) (fun q => ?_)
      · have h := if_f h q
        refine j_iload K 4 d_ErrataRow_ring_148 rfl ?_
        refine j_iload_n K 2 d_ErrataRow_ring_150 rfl rfl ?_
        refine j_iadd K d_ErrataRow_ring_151 ?_
        obtain ⟨v27, e27, h⟩ := lt_e h
        refine j_eqi e27 ?_
        refine j_istore (lv' := [(4, .int v27), (0, .ref x0), (1, .int x1), (2, .int x2), (3, .int x3)]) K d_ErrataRow_ring_152 (by decide) rfl ?_
        refine j_goto (tgt := 99) K d_ErrataRow_ring_154 (by decide) ?_
        refine j_sub [1, 2, 3, 4, 0] rfl ?_
        exact ih x0 x1 x2 x3 v27 κ h
      · have h := if_t h q
        refine j_iload_n K 1 d_ErrataRow_ring_126 rfl rfl ?_
        refine j_if_ne (tgt := 145) K d_ErrataRow_ring_127 (by decide) (fun q => ?_) (fun q => ?_)
        · have h := if_f h q
          refine j_iload K 4 d_ErrataRow_ring_145 rfl ?_
          exact eret_i K h hr hlk d_ErrataRow_ring_147
        · have h := if_t h q
          refine j_aload_n K 0 d_ErrataRow_ring_130 rfl rfl ?_
          refine eg_ErrataRow_world K ef_ErrataRow_45 q19 d_ErrataRow_ring_131 ?_
          obtain ⟨o28, e28, h⟩ := bo_e h
          refine j_eqq e28 ?_
          obtain ⟨q29, h⟩ := ck_e h
          refine eg_World_now K ef_ErrataRow_145 q29 d_ErrataRow_ring_134 ?_
          obtain ⟨o30, e30, h⟩ := bo_e h
          refine j_eqq e30 ?_
          obtain ⟨q31, h⟩ := ck_e h
          refine eg_State_edition K ef_ErrataRow_179 q31 d_ErrataRow_ring_137 ?_
          refine j_iload_n K 3 d_ErrataRow_ring_140 rfl rfl ?_
          refine j_iadd K d_ErrataRow_ring_141 ?_
          refine j_goto (tgt := 147) K d_ErrataRow_ring_142 (by decide) ?_
          exact eret_i K h hr hlk d_ErrataRow_ring_147
def b_ErrataRow_ring_90 (N : Nat) : Nat → Nat → Int32 → Int32 → Int32 → Cz → Option (Int32 × Cz)
  | 0, _, _, _, _, _ => none
  | n + 1, x0, x1, x2, x3, κ => if 60 ≤ x3 then some ((-2), κ) else b_ErrataRow_ring_99 N (b_ErrataRow_ring_90 N n) N x0 x1 x2 x3 x2 κ
set_option maxHeartbeats 4000000 in
set_option maxRecDepth 100000 in
theorem t_ErrataRow_ring_90 {p : Program} {l : Launch} {e : Env} {s : State} {m : MethodId} {args : Array Value} {below : List Frame} {meth : Method} {c : Code} {D : va_G} {θ : Tc} {A : Nat → Prop} (K : KE p s m args c c_ErrataRow_ring 5 "ErrataRow" y_ErrataRow_ring (some .int) D θ A) (hN : NX s) (hr : meth.sig.returnType = (some .int)) (hlk : meth.locks = false) (N : Nat) (ρ : Int32 × Cz) : ∀ (n : Nat) (x0 : Nat) (x1 : Int32) (x2 : Int32) (x3 : Int32) (κ : Cz), b_ErrataRow_ring_90 N n x0 x1 x2 x3 κ = some ρ → JE p l e (rmA 6 0 0) s m args below meth c D θ A 5 0 0 (QEi below args s D θ A 0 0 ρ) κ [(0, .ref x0), (1, .int x1), (2, .int x2), (3, .int x3)] [] 90 := by
  intro n
  induction n with
  | zero =>
    intro x0 x1 x2 x3 κ h
    exact absurd h (by simp [b_ErrataRow_ring_90])
  | succ n ih =>
    intro x0 x1 x2 x3 κ h
    rw [b_ErrataRow_ring_90] at h
    refine j_iload_n K 3 d_ErrataRow_ring_90 rfl rfl ?_
    refine j_bipush (v := 60) K d_ErrataRow_ring_91 (by decide) ?_
    refine j_icmp_ge (tgt := 163) K d_ErrataRow_ring_93 (by decide) (fun q => ?_) (fun q => ?_)
    · have h := if_t h q
      refine j_bipush (v := (-2)) K d_ErrataRow_ring_163 (by decide) ?_
      exact eret_i K h hr hlk d_ErrataRow_ring_165
    · have h := if_f h q
      refine j_iload_n K 2 d_ErrataRow_ring_96 rfl rfl ?_
      refine j_istore (lv' := [(4, .int x2), (0, .ref x0), (1, .int x1), (2, .int x2), (3, .int x3)]) K d_ErrataRow_ring_97 (by decide) rfl ?_
      refine j_sub [1, 2, 3, 4, 0] rfl ?_
      exact t_ErrataRow_ring_99 K hN hr hlk N ρ (b_ErrataRow_ring_90 N n) ih N x0 x1 x2 x3 x2 κ h
def b_ErrataRow_ring_37 (N : Nat) : Nat → Nat → Int32 → Int32 → Cz → Option (Int32 × Cz)
  | 0, _, _, _, _ => none
  | n + 1, x0, x1, x2, κ => if 60 < x2 then ck (isK κ x0 11) (bo (fr κ x0 7) (fun o13 => ck (isK κ o13 10) (bo (fr κ o13 0) (fun o15 => ck (isK κ o15 0) (bd (p_Book_editionsRound N o15 κ) (fun r16 κ16 => b_ErrataRow_ring_90 N N x0 x1 r16 0 κ16)))))) else ck (isK κ x0 11) (bo (fr κ x0 14) (fun o33 => bo (fr κ x0 12) (fun o34 => ck (isK κ o34 8) (bo (fr κ o34 0) (fun o36 => bd (p_ErrataRow_packed N o36 κ) (fun r37 κ37 => ck (isK κ37 o33 20) (ck (inb x2 (ln κ37 o33)) (lt (sai o33 (upd (ai κ37 o33) x2.toNatClampNeg r37) κ37) (fun κ40 => ck (isK κ40 x0 11) (bo (fr κ40 x0 10) (fun o42 => bo (fr κ40 x0 12) (fun o43 => ck (isK κ40 o42 4) (bd (p_Press_printEdition N o42 o43 κ40) (fun r44 κ44 => lt (x2 + 1) (fun v46 => b_ErrataRow_ring_37 N n x0 x1 v46 κ44)))))))))))))))
set_option maxHeartbeats 4000000 in
set_option maxRecDepth 100000 in
theorem t_ErrataRow_ring_37 {p : Program} {l : Launch} {e : Env} {s : State} {m : MethodId} {args : Array Value} {below : List Frame} {meth : Method} {c : Code} {D : va_G} {θ : Tc} {A : Nat → Prop} (K : KE p s m args c c_ErrataRow_ring 5 "ErrataRow" y_ErrataRow_ring (some .int) D θ A) (hN : NX s) (hr : meth.sig.returnType = (some .int)) (hlk : meth.locks = false) (N : Nat) (ρ : Int32 × Cz) : ∀ (n : Nat) (x0 : Nat) (x1 : Int32) (x2 : Int32) (κ : Cz), b_ErrataRow_ring_37 N n x0 x1 x2 κ = some ρ → JE p l e (rmA 6 0 0) s m args below meth c D θ A 5 0 0 (QEi below args s D θ A 0 0 ρ) κ [(0, .ref x0), (1, .int x1), (2, .int x2)] [] 37 := by
  intro n
  induction n with
  | zero =>
    intro x0 x1 x2 κ h
    exact absurd h (by simp [b_ErrataRow_ring_37])
  | succ n ih =>
    intro x0 x1 x2 κ h
    rw [b_ErrataRow_ring_37] at h
    refine j_iload_n K 2 d_ErrataRow_ring_37 rfl rfl ?_
    refine j_bipush (v := 60) K d_ErrataRow_ring_38 (by decide) ?_
    refine j_icmp_gt (tgt := 77) K d_ErrataRow_ring_40 (by decide) (fun q => ?_) (fun q => ?_)
    · have h := if_t h q
      refine j_aload_n K 0 d_ErrataRow_ring_77 rfl rfl ?_
      obtain ⟨q12, h⟩ := ck_e h
      refine eg_ErrataRow_world K ef_ErrataRow_45 q12 d_ErrataRow_ring_78 ?_
      obtain ⟨o13, e13, h⟩ := bo_e h
      refine j_eqq e13 ?_
      obtain ⟨q14, h⟩ := ck_e h
      refine eg_World_book K ef_ErrataRow_62 q14 d_ErrataRow_ring_81 ?_
      obtain ⟨o15, e15, h⟩ := bo_e h
      refine j_eqq e15 ?_
      obtain ⟨q17, h⟩ := ck_e h
      obtain ⟨r16, κ16, e16, h⟩ := bd_e h
      refine ecallV_i K hN (c_Book_editionsRound_ok l D θ N o15 κ _ e16) eG_ErrataRow_163 eh_Book_editionsRound (by decide) (rmA_ok (by decide) (by decide)) rfl q17 (by decide) rfl (st := []) (Nat.le_of_ble_eq_true rfl) rfl d_ErrataRow_ring_84 ⟨Nat.le_of_ble_eq_true rfl, Nat.le_of_ble_eq_true rfl⟩ ?_
      refine j_istore_n (lv' := [(2, .int r16), (0, .ref x0), (1, .int x1)]) K d_ErrataRow_ring_87 rfl (by decide) rfl ?_
      refine j_iconst (v := 0) K d_ErrataRow_ring_88 (by decide) ?_
      refine j_istore_n (lv' := [(3, .int 0), (2, .int r16), (0, .ref x0), (1, .int x1)]) K d_ErrataRow_ring_89 rfl (by decide) rfl ?_
      refine j_sub [2, 3, 1, 0] rfl ?_
      exact t_ErrataRow_ring_90 K hN hr hlk N ρ N x0 x1 r16 0 κ16 h
    · have h := if_f h q
      refine j_aload_n K 0 d_ErrataRow_ring_43 rfl rfl ?_
      obtain ⟨q32, h⟩ := ck_e h
      refine eg_ErrataRow_scratch K ef_ErrataRow_92 q32 d_ErrataRow_ring_44 ?_
      obtain ⟨o33, e33, h⟩ := bo_e h
      refine j_eqq e33 ?_
      refine j_iload_n K 2 d_ErrataRow_ring_47 rfl rfl ?_
      refine j_aload_n K 0 d_ErrataRow_ring_48 rfl rfl ?_
      refine eg_ErrataRow_trial K ef_ErrataRow_85 q32 d_ErrataRow_ring_49 ?_
      obtain ⟨o34, e34, h⟩ := bo_e h
      refine j_eqq e34 ?_
      obtain ⟨q35, h⟩ := ck_e h
      refine eg_State_put K ef_ErrataRow_148 q35 d_ErrataRow_ring_52 ?_
      obtain ⟨o36, e36, h⟩ := bo_e h
      refine j_eqq e36 ?_
      obtain ⟨r37, κ37, e37, h⟩ := bd_e h
      refine ecallS_i K hN (c_ErrataRow_packed_ok l D θ N o36 κ _ e37) eG_ErrataRow_280 eh_ErrataRow_packed (by decide) (rmA_ok (by decide) (by decide)) rfl (st := [.int x2, .ref o33]) (Nat.le_of_ble_eq_true rfl) rfl d_ErrataRow_ring_55 ⟨Nat.le_of_ble_eq_true rfl, Nat.le_of_ble_eq_true rfl⟩ ?_
      obtain ⟨q38, h⟩ := ck_e h
      obtain ⟨q39, h⟩ := ck_e h
      obtain ⟨κ40, e40, h⟩ := lt_e h
      refine e_iast K q38 (inb_e q39) d_ErrataRow_ring_58 e40 ?_
      refine j_aload_n K 0 d_ErrataRow_ring_59 rfl rfl ?_
      obtain ⟨q41, h⟩ := ck_e h
      refine eg_ErrataRow_press K ef_ErrataRow_69 q41 d_ErrataRow_ring_60 ?_
      obtain ⟨o42, e42, h⟩ := bo_e h
      refine j_eqq e42 ?_
      refine j_aload_n K 0 d_ErrataRow_ring_63 rfl rfl ?_
      refine eg_ErrataRow_trial K ef_ErrataRow_85 q41 d_ErrataRow_ring_64 ?_
      obtain ⟨o43, e43, h⟩ := bo_e h
      refine j_eqq e43 ?_
      obtain ⟨q45, h⟩ := ck_e h
      obtain ⟨r44, κ44, e44, h⟩ := bd_e h
      refine ecallV_i K hN (c_Press_printEdition_ok l D θ N o42 o43 κ40 _ e44) eG_ErrataRow_215 eh_Press_printEdition (by decide) (rmA_ok (by decide) (by decide)) rfl q45 (by decide) rfl (st := []) (Nat.le_of_ble_eq_true rfl) rfl d_ErrataRow_ring_67 ⟨Nat.le_of_ble_eq_true rfl, Nat.le_of_ble_eq_true rfl⟩ ?_
      refine j_pop K d_ErrataRow_ring_70 rfl ?_
      obtain ⟨v46, e46, h⟩ := lt_e h
      refine j_iinc (k := 2) (v := v46) (lv' := [(2, .int v46), (0, .ref x0), (1, .int x1)]) K d_ErrataRow_ring_71 rfl (by rw [e46]; rfl) (by decide) rfl ?_
      refine j_goto (tgt := 37) K d_ErrataRow_ring_74 (by decide) ?_
      refine j_sub [1, 2, 0] rfl ?_
      exact ih x0 x1 v46 κ44 h
def p_ErrataRow_ring (N : Nat) (this : Nat) (a1 : Int32) (κ : Cz) : Option (Int32 × Cz) := ck (isK κ this 11) (bo (fr κ this 7) (fun o2 => ck (isK κ o2 10) (bo (fr κ o2 0) (fun o4 => ck (isK κ o4 0) (if (fi κ o4 0) = 0 then some ((-1), κ) else bd (p_ErrataRow_within N a1 0 1 κ) (fun r6 κ6 => if r6 = 0 then some ((-1), κ6) else ck (isK κ6 this 11) (bo (fr κ6 this 7) (fun o8 => ck (isK κ6 o8 10) (bo (fr κ6 o8 1) (fun o10 => bo (p_ErrataRow_startFrom N this o10 κ6) (fun κ11 => b_ErrataRow_ring_37 N N this a1 0 κ11)))))))))))
set_option maxHeartbeats 4000000 in
set_option maxRecDepth 100000 in
theorem c_ErrataRow_ring_ok (l : Launch) (D : va_G) (θ : Tc) (N : Nat) (this : Nat) (a1 : Int32) (κ : Cz) (ρ : Int32 × Cz) (h : p_ErrataRow_ring N this a1 κ = some ρ) : CEi l D θ y_ErrataRow_ring c_ErrataRow_ring 5 (some .int) 6 0 0 [.ref this, .int a1] κ ρ := by
  intro sz
  refine e_met l [.ref this, .int a1] (by decide +kernel) (Nat.le_of_ble_eq_true rfl) ?_
  intro p e s m args below meth c K hN hr hlk hnm hs
  generalize va_A (wE θ κ) sz = A at K ⊢
  have K : KE p s m args c c_ErrataRow_ring 5 "ErrataRow" y_ErrataRow_ring (some .int) D θ A := K
  show JE p l e (rmA 6 0 0) s m args below meth c D θ A 5 0 0 (QEi below args s D θ A 0 0 ρ) κ [(0, .ref this), (1, .int a1)] [] 0
  unfold p_ErrataRow_ring at h
  refine j_aload_n K 0 d_ErrataRow_ring_0 rfl rfl ?_
  obtain ⟨q1, h⟩ := ck_e h
  refine eg_ErrataRow_world K ef_ErrataRow_45 q1 d_ErrataRow_ring_1 ?_
  obtain ⟨o2, e2, h⟩ := bo_e h
  refine j_eqq e2 ?_
  obtain ⟨q3, h⟩ := ck_e h
  refine eg_World_book K ef_ErrataRow_62 q3 d_ErrataRow_ring_4 ?_
  obtain ⟨o4, e4, h⟩ := bo_e h
  refine j_eqq e4 ?_
  obtain ⟨q5, h⟩ := ck_e h
  refine eg_Book_told K ef_ErrataRow_160 q5 d_ErrataRow_ring_7 ?_
  refine j_if_eq (tgt := 22) K d_ErrataRow_ring_10 (by decide) (fun q => ?_) (fun q => ?_)
  · have h := if_t h q
    refine j_iconst (v := (-1)) K d_ErrataRow_ring_22 (by decide) ?_
    exact eret_i K h hr hlk d_ErrataRow_ring_23
  · have h := if_f h q
    refine j_iload_n K 1 d_ErrataRow_ring_13 rfl rfl ?_
    refine j_iconst (v := 0) K d_ErrataRow_ring_14 (by decide) ?_
    refine j_iconst (v := 1) K d_ErrataRow_ring_15 (by decide) ?_
    obtain ⟨r6, κ6, e6, h⟩ := bd_e h
    refine ecallS_i K hN (c_ErrataRow_within_ok l D θ N a1 0 1 κ _ e6) eG_ErrataRow_166 eh_ErrataRow_within (by decide) (rmA_ok (by decide) (by decide)) rfl (st := []) (Nat.le_of_ble_eq_true rfl) rfl d_ErrataRow_ring_16 ⟨Nat.le_of_ble_eq_true rfl, Nat.le_of_ble_eq_true rfl⟩ ?_
    refine j_if_ne (tgt := 24) K d_ErrataRow_ring_19 (by decide) (fun q => ?_) (fun q => ?_)
    · have h := if_f h q
      refine j_aload_n K 0 d_ErrataRow_ring_24 rfl rfl ?_
      refine j_aload_n K 0 d_ErrataRow_ring_25 rfl rfl ?_
      obtain ⟨q7, h⟩ := ck_e h
      refine eg_ErrataRow_world K ef_ErrataRow_45 q7 d_ErrataRow_ring_26 ?_
      obtain ⟨o8, e8, h⟩ := bo_e h
      refine j_eqq e8 ?_
      obtain ⟨q9, h⟩ := ck_e h
      refine eg_World_now K ef_ErrataRow_145 q9 d_ErrataRow_ring_29 ?_
      obtain ⟨o10, e10, h⟩ := bo_e h
      refine j_eqq e10 ?_
      obtain ⟨κ11, e11, h⟩ := bo_e h
      refine ecallV_v K hN (c_ErrataRow_startFrom_ok l D θ N this o10 κ6 _ e11) eG_ErrataRow_252 eh_ErrataRow_startFrom (by decide) (rmA_ok (by decide) (by decide)) rfl q7 (by decide) rfl (st := []) (Nat.le_of_ble_eq_true rfl) rfl d_ErrataRow_ring_32 ⟨Nat.le_of_ble_eq_true rfl, Nat.le_of_ble_eq_true rfl⟩ ?_
      refine j_iconst (v := 0) K d_ErrataRow_ring_35 (by decide) ?_
      refine j_istore_n (lv' := [(2, .int 0), (0, .ref this), (1, .int a1)]) K d_ErrataRow_ring_36 rfl (by decide) rfl ?_
      refine j_sub [1, 2, 0] rfl ?_
      exact t_ErrataRow_ring_37 K hN hr hlk N ρ N this a1 0 κ11 h
    · have h := if_t h q
      refine j_iconst (v := (-1)) K d_ErrataRow_ring_22 (by decide) ?_
      exact eret_i K h hr hlk d_ErrataRow_ring_23
def b_ErrataRow_isEnough_21 (N : Nat) : Nat → Nat → Int32 → Int32 → Cz → Option (Int32 × Cz)
  | 0, _, _, _, _ => none
  | n + 1, x0, x2, x3, κ => if x2 ≤ x3 then some (1, κ) else ck (isK κ x0 11) (bo (fr κ x0 10) (fun o11 => bo (fr κ x0 12) (fun o12 => ck (isK κ o11 4) (bd (p_Press_printEdition N o11 o12 κ) (fun r13 κ13 => ck (isK κ13 x0 11) (bo (fr κ13 x0 10) (fun o16 => ck (isK κ13 o16 4) (if (fi κ13 o16 5) = 0 then lt (x3 + 1) (fun v18 => b_ErrataRow_isEnough_21 N n x0 x2 v18 κ13) else some (0, κ13)))))))))
set_option maxHeartbeats 4000000 in
set_option maxRecDepth 100000 in
theorem t_ErrataRow_isEnough_21 {p : Program} {l : Launch} {e : Env} {s : State} {m : MethodId} {args : Array Value} {below : List Frame} {meth : Method} {c : Code} {D : va_G} {θ : Tc} {A : Nat → Prop} (K : KE p s m args c c_ErrataRow_isEnough 4 "ErrataRow" y_ErrataRow_isEnough (some .boolean) D θ A) (hN : NX s) (hr : meth.sig.returnType = (some .boolean)) (hlk : meth.locks = false) (N : Nat) (ρ : Int32 × Cz) : ∀ (n : Nat) (x0 : Nat) (x2 : Int32) (x3 : Int32) (κ : Cz), b_ErrataRow_isEnough_21 N n x0 x2 x3 κ = some ρ → JE p l e (rmA 6 0 0) s m args below meth c D θ A 4 0 0 (QEi below args s D θ A 0 0 ρ) κ [(0, .ref x0), (2, .int x2), (3, .int x3)] [] 21 := by
  intro n
  induction n with
  | zero =>
    intro x0 x2 x3 κ h
    exact absurd h (by simp [b_ErrataRow_isEnough_21])
  | succ n ih =>
    intro x0 x2 x3 κ h
    rw [b_ErrataRow_isEnough_21] at h
    refine j_iload_n K 2 d_ErrataRow_isEnough_21 rfl rfl ?_
    refine j_iload_n K 1 d_ErrataRow_isEnough_22 rfl rfl ?_
    refine j_icmp_ge (tgt := 56) K d_ErrataRow_isEnough_23 (by decide) (fun q => ?_) (fun q => ?_)
    · have h := if_t h q
      refine j_iconst (v := 1) K d_ErrataRow_isEnough_56 (by decide) ?_
      exact eret_z K h rfl hr hlk d_ErrataRow_isEnough_57
    · have h := if_f h q
      refine j_aload_n K 0 d_ErrataRow_isEnough_26 rfl rfl ?_
      obtain ⟨q10, h⟩ := ck_e h
      refine eg_ErrataRow_press K ef_ErrataRow_69 q10 d_ErrataRow_isEnough_27 ?_
      obtain ⟨o11, e11, h⟩ := bo_e h
      refine j_eqq e11 ?_
      refine j_aload_n K 0 d_ErrataRow_isEnough_30 rfl rfl ?_
      refine eg_ErrataRow_trial K ef_ErrataRow_85 q10 d_ErrataRow_isEnough_31 ?_
      obtain ⟨o12, e12, h⟩ := bo_e h
      refine j_eqq e12 ?_
      obtain ⟨q14, h⟩ := ck_e h
      obtain ⟨r13, κ13, e13, h⟩ := bd_e h
      refine ecallV_i K hN (c_Press_printEdition_ok l D θ N o11 o12 κ _ e13) eG_ErrataRow_215 eh_Press_printEdition (by decide) (rmA_ok (by decide) (by decide)) rfl q14 (by decide) rfl (st := []) (Nat.le_of_ble_eq_true rfl) rfl d_ErrataRow_isEnough_34 ⟨Nat.le_of_ble_eq_true rfl, Nat.le_of_ble_eq_true rfl⟩ ?_
      refine j_pop K d_ErrataRow_isEnough_37 rfl ?_
      refine j_aload_n K 0 d_ErrataRow_isEnough_38 rfl rfl ?_
      obtain ⟨q15, h⟩ := ck_e h
      refine eg_ErrataRow_press K ef_ErrataRow_69 q15 d_ErrataRow_isEnough_39 ?_
      obtain ⟨o16, e16, h⟩ := bo_e h
      refine j_eqq e16 ?_
      obtain ⟨q17, h⟩ := ck_e h
      refine eg_Press_notPaid K ef_ErrataRow_262 q17 d_ErrataRow_isEnough_42 ?_
      refine j_if_eq (tgt := 50) K d_ErrataRow_isEnough_45 (by decide) (fun q => ?_) (fun q => ?_)
      · have h := if_t h q
        obtain ⟨v18, e18, h⟩ := lt_e h
        refine j_iinc (k := 2) (v := v18) (lv' := [(3, .int v18), (0, .ref x0), (2, .int x2)]) K d_ErrataRow_isEnough_50 rfl (by rw [e18]; rfl) (by decide) rfl ?_
        refine j_goto (tgt := 21) K d_ErrataRow_isEnough_53 (by decide) ?_
        refine j_sub [1, 2, 0] rfl ?_
        exact ih x0 x2 v18 κ13 h
      · have h := if_f h q
        refine j_iconst (v := 0) K d_ErrataRow_isEnough_48 (by decide) ?_
        exact eret_z K h rfl hr hlk d_ErrataRow_isEnough_49
def p_ErrataRow_isEnough (N : Nat) (this : Nat) (a1 : Int32) (a2 : Int32) (κ : Cz) : Option (Int32 × Cz) := ck (isK κ this 11) (bo (fr κ this 7) (fun o2 => ck (isK κ o2 10) (bo (fr κ o2 1) (fun o4 => bo (p_ErrataRow_startFrom N this o4 κ) (fun κ5 => ck (isK κ5 this 11) (bo (fr κ5 this 12) (fun o7 => ck (isK κ5 o7 8) (lt (sfi o7 3 a1 κ5) (fun κ9 => b_ErrataRow_isEnough_21 N N this a2 0 κ9)))))))))
set_option maxHeartbeats 4000000 in
set_option maxRecDepth 100000 in
theorem c_ErrataRow_isEnough_ok (l : Launch) (D : va_G) (θ : Tc) (N : Nat) (this : Nat) (a1 : Int32) (a2 : Int32) (κ : Cz) (ρ : Int32 × Cz) (h : p_ErrataRow_isEnough N this a1 a2 κ = some ρ) : CEi l D θ y_ErrataRow_isEnough c_ErrataRow_isEnough 4 (some .boolean) 6 0 0 [.ref this, .int a1, .int a2] κ ρ := by
  intro sz
  refine e_met l [.ref this, .int a1, .int a2] (by decide +kernel) (Nat.le_of_ble_eq_true rfl) ?_
  intro p e s m args below meth c K hN hr hlk hnm hs
  generalize va_A (wE θ κ) sz = A at K ⊢
  have K : KE p s m args c c_ErrataRow_isEnough 4 "ErrataRow" y_ErrataRow_isEnough (some .boolean) D θ A := K
  show JE p l e (rmA 6 0 0) s m args below meth c D θ A 4 0 0 (QEi below args s D θ A 0 0 ρ) κ [(0, .ref this), (1, .int a1), (2, .int a2)] [] 0
  unfold p_ErrataRow_isEnough at h
  refine j_aload_n K 0 d_ErrataRow_isEnough_0 rfl rfl ?_
  refine j_aload_n K 0 d_ErrataRow_isEnough_1 rfl rfl ?_
  obtain ⟨q1, h⟩ := ck_e h
  refine eg_ErrataRow_world K ef_ErrataRow_45 q1 d_ErrataRow_isEnough_2 ?_
  obtain ⟨o2, e2, h⟩ := bo_e h
  refine j_eqq e2 ?_
  obtain ⟨q3, h⟩ := ck_e h
  refine eg_World_now K ef_ErrataRow_145 q3 d_ErrataRow_isEnough_5 ?_
  obtain ⟨o4, e4, h⟩ := bo_e h
  refine j_eqq e4 ?_
  obtain ⟨κ5, e5, h⟩ := bo_e h
  refine ecallV_v K hN (c_ErrataRow_startFrom_ok l D θ N this o4 κ _ e5) eG_ErrataRow_252 eh_ErrataRow_startFrom (by decide) (rmA_ok (by decide) (by decide)) rfl q1 (by decide) rfl (st := []) (Nat.le_of_ble_eq_true rfl) rfl d_ErrataRow_isEnough_8 ⟨Nat.le_of_ble_eq_true rfl, Nat.le_of_ble_eq_true rfl⟩ ?_
  refine j_aload_n K 0 d_ErrataRow_isEnough_11 rfl rfl ?_
  obtain ⟨q6, h⟩ := ck_e h
  refine eg_ErrataRow_trial K ef_ErrataRow_85 q6 d_ErrataRow_isEnough_12 ?_
  obtain ⟨o7, e7, h⟩ := bo_e h
  refine j_eqq e7 ?_
  refine j_iload_n K 1 d_ErrataRow_isEnough_15 rfl rfl ?_
  obtain ⟨q8, h⟩ := ck_e h
  obtain ⟨κ9, e9, h⟩ := lt_e h
  refine ep_State_purse K ef_ErrataRow_189 q8 d_ErrataRow_isEnough_16 e9 ?_
  refine j_iconst (v := 0) K d_ErrataRow_isEnough_19 (by decide) ?_
  refine j_istore_n (lv' := [(3, .int 0), (0, .ref this), (1, .int a1), (2, .int a2)]) K d_ErrataRow_isEnough_20 rfl (by decide) rfl ?_
  refine j_sub [1, 3, 0] rfl ?_
  exact t_ErrataRow_isEnough_21 K hN hr hlk N ρ N this a2 0 κ9 h
def b_ErrataRow_findGains_64 (N : Nat) : Nat → Nat → Int32 → Int32 → Int32 → Int32 → Int32 → Cz → Option (Cz)
  | 0, _, _, _, _, _, _, _ => none
  | n + 1, x0, x1, x2, x3, x4, x5, κ => if x3 ≤ x5 then some κ else ck (isK κ x0 11) (bo (fr κ x0 10) (fun o30 => bo (fr κ x0 12) (fun o31 => ck (isK κ o30 4) (bd (p_Press_printEdition N o30 o31 κ) (fun r32 κ32 => ck (isK κ32 x0 11) (bo (fr κ32 x0 15) (fun o35 => lt (2 * x4) (fun v36 => ck (isK κ32 o35 20) (ck (inb v36 (ln κ32 o35)) (bo (fr κ32 x0 10) (fun o39 => ck (isK κ32 o39 4) (bd (p_Press_gainOf N o39 x1 κ32) (fun r40 κ40 => lt ((ai κ32 o35 v36.toNatClampNeg) + r40) (fun v42 => ck (isK κ40 o35 20) (ck (inb v36 (ln κ40 o35)) (lt (sai o35 (upd (ai κ40 o35) v36.toNatClampNeg v42) κ40) (fun κ45 => ck (isK κ45 x0 11) (bo (fr κ45 x0 15) (fun o47 => lt ((2 * x4) + 1) (fun v48 => ck (isK κ45 o47 20) (ck (inb v48 (ln κ45 o47)) (bo (fr κ45 x0 10) (fun o51 => ck (isK κ45 o51 4) (bd (p_Press_gainOf N o51 x2 κ45) (fun r52 κ52 => lt ((ai κ45 o47 v48.toNatClampNeg) + r52) (fun v54 => ck (isK κ52 o47 20) (ck (inb v48 (ln κ52 o47)) (lt (sai o47 (upd (ai κ52 o47) v48.toNatClampNeg v54) κ52) (fun κ57 => lt (x5 + 1) (fun v58 => b_ErrataRow_findGains_64 N n x0 x1 x2 x3 x4 v58 κ57))))))))))))))))))))))))))))))
set_option maxHeartbeats 4000000 in
set_option maxRecDepth 100000 in
theorem t_ErrataRow_findGains_64 {p : Program} {l : Launch} {e : Env} {s : State} {m : MethodId} {args : Array Value} {below : List Frame} {meth : Method} {c : Code} {D : va_G} {θ : Tc} {A : Nat → Prop} (K : KE p s m args c c_ErrataRow_findGains 6 "ErrataRow" y_ErrataRow_findGains none D θ A) (hN : NX s) (hr : meth.sig.returnType = none) (hlk : meth.locks = false) (N : Nat) (ρ : Cz) : ∀ (n : Nat) (x0 : Nat) (x1 : Int32) (x2 : Int32) (x3 : Int32) (x4 : Int32) (x5 : Int32) (κ : Cz), b_ErrataRow_findGains_64 N n x0 x1 x2 x3 x4 x5 κ = some ρ → JE p l e (rmA 6 0 0) s m args below meth c D θ A 6 0 0 (QEv below args s D θ A 0 0 ρ) κ [(0, .ref x0), (1, .int x1), (2, .int x2), (3, .int x3), (4, .int x4), (5, .int x5)] [] 64 := by
  intro n
  induction n with
  | zero =>
    intro x0 x1 x2 x3 x4 x5 κ h
    exact absurd h (by simp [b_ErrataRow_findGains_64])
  | succ n ih =>
    intro x0 x1 x2 x3 x4 x5 κ h
    rw [b_ErrataRow_findGains_64] at h
    refine j_iload K 5 d_ErrataRow_findGains_64 rfl ?_
    refine j_iload_n K 3 d_ErrataRow_findGains_66 rfl rfl ?_
    refine j_icmp_ge (tgt := 130) K d_ErrataRow_findGains_67 (by decide) (fun q => ?_) (fun q => ?_)
    · have h := if_t h q
      exact eret_v K h hr hlk d_ErrataRow_findGains_130
    · have h := if_f h q
      refine j_aload_n K 0 d_ErrataRow_findGains_70 rfl rfl ?_
      obtain ⟨q29, h⟩ := ck_e h
      refine eg_ErrataRow_press K ef_ErrataRow_69 q29 d_ErrataRow_findGains_71 ?_
      obtain ⟨o30, e30, h⟩ := bo_e h
      refine j_eqq e30 ?_
      refine j_aload_n K 0 d_ErrataRow_findGains_74 rfl rfl ?_
      refine eg_ErrataRow_trial K ef_ErrataRow_85 q29 d_ErrataRow_findGains_75 ?_
      obtain ⟨o31, e31, h⟩ := bo_e h
      refine j_eqq e31 ?_
      obtain ⟨q33, h⟩ := ck_e h
      obtain ⟨r32, κ32, e32, h⟩ := bd_e h
      refine ecallV_i K hN (c_Press_printEdition_ok l D θ N o30 o31 κ _ e32) eG_ErrataRow_215 eh_Press_printEdition (by decide) (rmA_ok (by decide) (by decide)) rfl q33 (by decide) rfl (st := []) (Nat.le_of_ble_eq_true rfl) rfl d_ErrataRow_findGains_78 ⟨Nat.le_of_ble_eq_true rfl, Nat.le_of_ble_eq_true rfl⟩ ?_
      refine j_pop K d_ErrataRow_findGains_81 rfl ?_
      refine j_aload_n K 0 d_ErrataRow_findGains_82 rfl rfl ?_
      obtain ⟨q34, h⟩ := ck_e h
      refine eg_ErrataRow_gains K ef_ErrataRow_95 q34 d_ErrataRow_findGains_83 ?_
      obtain ⟨o35, e35, h⟩ := bo_e h
      refine j_eqq e35 ?_
      refine j_iconst (v := 2) K d_ErrataRow_findGains_86 (by decide) ?_
      refine j_iload K 4 d_ErrataRow_findGains_87 rfl ?_
      refine j_imul K d_ErrataRow_findGains_89 ?_
      obtain ⟨v36, e36, h⟩ := lt_e h
      refine j_eqi e36 ?_
      refine j_dup2 K d_ErrataRow_findGains_90 rfl rfl ?_
      obtain ⟨q37, h⟩ := ck_e h
      obtain ⟨q38, h⟩ := ck_e h
      refine e_iald K q37 (inb_e q38) d_ErrataRow_findGains_91 ?_
      refine j_aload_n K 0 d_ErrataRow_findGains_92 rfl rfl ?_
      refine eg_ErrataRow_press K ef_ErrataRow_69 q34 d_ErrataRow_findGains_93 ?_
      obtain ⟨o39, e39, h⟩ := bo_e h
      refine j_eqq e39 ?_
      refine j_iload_n K 1 d_ErrataRow_findGains_96 rfl rfl ?_
      obtain ⟨q41, h⟩ := ck_e h
      obtain ⟨r40, κ40, e40, h⟩ := bd_e h
      refine ecallV_i K hN (c_Press_gainOf_ok l D θ N o39 x1 κ32 _ e40) eG_ErrataRow_320 eh_Press_gainOf (by decide) (rmA_ok (by decide) (by decide)) rfl q41 (by decide) rfl (st := [.int (ai κ32 o35 v36.toNatClampNeg), .int v36, .ref o35]) (Nat.le_of_ble_eq_true rfl) rfl d_ErrataRow_findGains_97 ⟨Nat.le_of_ble_eq_true rfl, Nat.le_of_ble_eq_true rfl⟩ ?_
      refine j_iadd K d_ErrataRow_findGains_100 ?_
      obtain ⟨v42, e42, h⟩ := lt_e h
      refine j_eqi e42 ?_
      obtain ⟨q43, h⟩ := ck_e h
      obtain ⟨q44, h⟩ := ck_e h
      obtain ⟨κ45, e45, h⟩ := lt_e h
      refine e_iast K q43 (inb_e q44) d_ErrataRow_findGains_101 e45 ?_
      refine j_aload_n K 0 d_ErrataRow_findGains_102 rfl rfl ?_
      obtain ⟨q46, h⟩ := ck_e h
      refine eg_ErrataRow_gains K ef_ErrataRow_95 q46 d_ErrataRow_findGains_103 ?_
      obtain ⟨o47, e47, h⟩ := bo_e h
      refine j_eqq e47 ?_
      refine j_iconst (v := 2) K d_ErrataRow_findGains_106 (by decide) ?_
      refine j_iload K 4 d_ErrataRow_findGains_107 rfl ?_
      refine j_imul K d_ErrataRow_findGains_109 ?_
      refine j_iconst (v := 1) K d_ErrataRow_findGains_110 (by decide) ?_
      refine j_iadd K d_ErrataRow_findGains_111 ?_
      obtain ⟨v48, e48, h⟩ := lt_e h
      refine j_eqi e48 ?_
      refine j_dup2 K d_ErrataRow_findGains_112 rfl rfl ?_
      obtain ⟨q49, h⟩ := ck_e h
      obtain ⟨q50, h⟩ := ck_e h
      refine e_iald K q49 (inb_e q50) d_ErrataRow_findGains_113 ?_
      refine j_aload_n K 0 d_ErrataRow_findGains_114 rfl rfl ?_
      refine eg_ErrataRow_press K ef_ErrataRow_69 q46 d_ErrataRow_findGains_115 ?_
      obtain ⟨o51, e51, h⟩ := bo_e h
      refine j_eqq e51 ?_
      refine j_iload_n K 2 d_ErrataRow_findGains_118 rfl rfl ?_
      obtain ⟨q53, h⟩ := ck_e h
      obtain ⟨r52, κ52, e52, h⟩ := bd_e h
      refine ecallV_i K hN (c_Press_gainOf_ok l D θ N o51 x2 κ45 _ e52) eG_ErrataRow_320 eh_Press_gainOf (by decide) (rmA_ok (by decide) (by decide)) rfl q53 (by decide) rfl (st := [.int (ai κ45 o47 v48.toNatClampNeg), .int v48, .ref o47]) (Nat.le_of_ble_eq_true rfl) rfl d_ErrataRow_findGains_119 ⟨Nat.le_of_ble_eq_true rfl, Nat.le_of_ble_eq_true rfl⟩ ?_
      refine j_iadd K d_ErrataRow_findGains_122 ?_
      obtain ⟨v54, e54, h⟩ := lt_e h
      refine j_eqi e54 ?_
      obtain ⟨q55, h⟩ := ck_e h
      obtain ⟨q56, h⟩ := ck_e h
      obtain ⟨κ57, e57, h⟩ := lt_e h
      refine e_iast K q55 (inb_e q56) d_ErrataRow_findGains_123 e57 ?_
      obtain ⟨v58, e58, h⟩ := lt_e h
      refine j_iinc (k := 5) (v := v58) (lv' := [(5, .int v58), (0, .ref x0), (1, .int x1), (2, .int x2), (3, .int x3), (4, .int x4)]) K d_ErrataRow_findGains_124 rfl (by rw [e58]; rfl) (by decide) rfl ?_
      refine j_goto (tgt := 64) K d_ErrataRow_findGains_127 (by decide) ?_
      refine j_sub [1, 2, 3, 4, 5, 0] rfl ?_
      exact ih x0 x1 x2 x3 x4 v58 κ57 h
def p_ErrataRow_findGains (N : Nat) (this : Nat) (a1 : Int32) (a2 : Int32) (a3 : Int32) (a4 : Int32) (κ : Cz) : Option (Cz) := ck (isK κ this 11) (bo (fr κ this 7) (fun o2 => ck (isK κ o2 10) (bo (fr κ o2 1) (fun o4 => bo (p_ErrataRow_startFrom N this o4 κ) (fun κ5 => ck (isK κ5 this 11) (bo (fr κ5 this 12) (fun o7 => ck (isK κ5 o7 8) (bo (fr κ5 o7 0) (fun o9 => lt (a4 / 8) (fun v10 => ck (isK κ5 o9 20) (ck (inb a1 (ln κ5 o9)) (lt (sai o9 (upd (ai κ5 o9) a1.toNatClampNeg v10) κ5) (fun κ13 => bo (fr κ13 this 12) (fun o14 => ck (isK κ13 o14 8) (bo (fr κ13 o14 0) (fun o16 => lt (a4 - a4 / 8 * 8) (fun v17 => ck (isK κ13 o16 20) (ck (inb a2 (ln κ13 o16)) (lt (sai o16 (upd (ai κ13 o16) a2.toNatClampNeg v17) κ13) (fun κ20 => bo (fr κ20 this 15) (fun o21 => ck (isK κ20 o21 20) (ck (inb (2 * a4) (ln κ20 o21)) (lt (sai o21 (upd (ai κ20 o21) (2 * a4).toNatClampNeg 0) κ20) (fun κ24 => bo (fr κ24 this 15) (fun o25 => ck (isK κ24 o25 20) (ck (inb ((2 * a4) + 1) (ln κ24 o25)) (lt (sai o25 (upd (ai κ24 o25) ((2 * a4) + 1).toNatClampNeg 0) κ24) (fun κ28 => b_ErrataRow_findGains_64 N N this a1 a2 a3 a4 0 κ28))))))))))))))))))))))))))))
set_option maxHeartbeats 4000000 in
set_option maxRecDepth 100000 in
theorem c_ErrataRow_findGains_ok (l : Launch) (D : va_G) (θ : Tc) (N : Nat) (this : Nat) (a1 : Int32) (a2 : Int32) (a3 : Int32) (a4 : Int32) (κ : Cz) (ρ : Cz) (h : p_ErrataRow_findGains N this a1 a2 a3 a4 κ = some ρ) : CEv l D θ y_ErrataRow_findGains c_ErrataRow_findGains 6 none 6 0 0 [.ref this, .int a1, .int a2, .int a3, .int a4] κ ρ := by
  intro sz
  refine e_met l [.ref this, .int a1, .int a2, .int a3, .int a4] (by decide +kernel) (Nat.le_of_ble_eq_true rfl) ?_
  intro p e s m args below meth c K hN hr hlk hnm hs
  generalize va_A (wE θ κ) sz = A at K ⊢
  have K : KE p s m args c c_ErrataRow_findGains 6 "ErrataRow" y_ErrataRow_findGains none D θ A := K
  show JE p l e (rmA 6 0 0) s m args below meth c D θ A 6 0 0 (QEv below args s D θ A 0 0 ρ) κ [(0, .ref this), (1, .int a1), (2, .int a2), (3, .int a3), (4, .int a4)] [] 0
  unfold p_ErrataRow_findGains at h
  refine j_aload_n K 0 d_ErrataRow_findGains_0 rfl rfl ?_
  refine j_aload_n K 0 d_ErrataRow_findGains_1 rfl rfl ?_
  obtain ⟨q1, h⟩ := ck_e h
  refine eg_ErrataRow_world K ef_ErrataRow_45 q1 d_ErrataRow_findGains_2 ?_
  obtain ⟨o2, e2, h⟩ := bo_e h
  refine j_eqq e2 ?_
  obtain ⟨q3, h⟩ := ck_e h
  refine eg_World_now K ef_ErrataRow_145 q3 d_ErrataRow_findGains_5 ?_
  obtain ⟨o4, e4, h⟩ := bo_e h
  refine j_eqq e4 ?_
  obtain ⟨κ5, e5, h⟩ := bo_e h
  refine ecallV_v K hN (c_ErrataRow_startFrom_ok l D θ N this o4 κ _ e5) eG_ErrataRow_252 eh_ErrataRow_startFrom (by decide) (rmA_ok (by decide) (by decide)) rfl q1 (by decide) rfl (st := []) (Nat.le_of_ble_eq_true rfl) rfl d_ErrataRow_findGains_8 ⟨Nat.le_of_ble_eq_true rfl, Nat.le_of_ble_eq_true rfl⟩ ?_
  refine j_aload_n K 0 d_ErrataRow_findGains_11 rfl rfl ?_
  obtain ⟨q6, h⟩ := ck_e h
  refine eg_ErrataRow_trial K ef_ErrataRow_85 q6 d_ErrataRow_findGains_12 ?_
  obtain ⟨o7, e7, h⟩ := bo_e h
  refine j_eqq e7 ?_
  obtain ⟨q8, h⟩ := ck_e h
  refine eg_State_put K ef_ErrataRow_148 q8 d_ErrataRow_findGains_15 ?_
  obtain ⟨o9, e9, h⟩ := bo_e h
  refine j_eqq e9 ?_
  refine j_iload_n K 1 d_ErrataRow_findGains_18 rfl rfl ?_
  refine j_iload K 4 d_ErrataRow_findGains_19 rfl ?_
  refine j_bipush (v := 8) K d_ErrataRow_findGains_21 (by decide) ?_
  refine j_idiv K d_ErrataRow_findGains_23 (by decide) ?_
  obtain ⟨v10, e10, h⟩ := lt_e h
  refine j_eqi e10 ?_
  obtain ⟨q11, h⟩ := ck_e h
  obtain ⟨q12, h⟩ := ck_e h
  obtain ⟨κ13, e13, h⟩ := lt_e h
  refine e_iast K q11 (inb_e q12) d_ErrataRow_findGains_24 e13 ?_
  refine j_aload_n K 0 d_ErrataRow_findGains_25 rfl rfl ?_
  refine eg_ErrataRow_trial K ef_ErrataRow_85 (isK_sai e13 q6) d_ErrataRow_findGains_26 ?_
  obtain ⟨o14, e14, h⟩ := bo_e h
  refine j_eqq e14 ?_
  obtain ⟨q15, h⟩ := ck_e h
  refine eg_State_put K ef_ErrataRow_148 q15 d_ErrataRow_findGains_29 ?_
  obtain ⟨o16, e16, h⟩ := bo_e h
  refine j_eqq e16 ?_
  refine j_iload_n K 2 d_ErrataRow_findGains_32 rfl rfl ?_
  refine j_iload K 4 d_ErrataRow_findGains_33 rfl ?_
  refine j_bipush (v := 8) K d_ErrataRow_findGains_35 (by decide) ?_
  refine j_irem K d_ErrataRow_findGains_37 (by decide) ?_
  obtain ⟨v17, e17, h⟩ := lt_e h
  refine j_eqi e17 ?_
  obtain ⟨q18, h⟩ := ck_e h
  obtain ⟨q19, h⟩ := ck_e h
  obtain ⟨κ20, e20, h⟩ := lt_e h
  refine e_iast K q18 (inb_e q19) d_ErrataRow_findGains_38 e20 ?_
  refine j_aload_n K 0 d_ErrataRow_findGains_39 rfl rfl ?_
  refine eg_ErrataRow_gains K ef_ErrataRow_95 (isK_sai e20 (isK_sai e13 q6)) d_ErrataRow_findGains_40 ?_
  obtain ⟨o21, e21, h⟩ := bo_e h
  refine j_eqq e21 ?_
  refine j_iconst (v := 2) K d_ErrataRow_findGains_43 (by decide) ?_
  refine j_iload K 4 d_ErrataRow_findGains_44 rfl ?_
  refine j_imul K d_ErrataRow_findGains_46 ?_
  refine j_iconst (v := 0) K d_ErrataRow_findGains_47 (by decide) ?_
  obtain ⟨q22, h⟩ := ck_e h
  obtain ⟨q23, h⟩ := ck_e h
  obtain ⟨κ24, e24, h⟩ := lt_e h
  refine e_iast K q22 (inb_e q23) d_ErrataRow_findGains_48 e24 ?_
  refine j_aload_n K 0 d_ErrataRow_findGains_49 rfl rfl ?_
  refine eg_ErrataRow_gains K ef_ErrataRow_95 (isK_sai e24 (isK_sai e20 (isK_sai e13 q6))) d_ErrataRow_findGains_50 ?_
  obtain ⟨o25, e25, h⟩ := bo_e h
  refine j_eqq e25 ?_
  refine j_iconst (v := 2) K d_ErrataRow_findGains_53 (by decide) ?_
  refine j_iload K 4 d_ErrataRow_findGains_54 rfl ?_
  refine j_imul K d_ErrataRow_findGains_56 ?_
  refine j_iconst (v := 1) K d_ErrataRow_findGains_57 (by decide) ?_
  refine j_iadd K d_ErrataRow_findGains_58 ?_
  refine j_iconst (v := 0) K d_ErrataRow_findGains_59 (by decide) ?_
  obtain ⟨q26, h⟩ := ck_e h
  obtain ⟨q27, h⟩ := ck_e h
  obtain ⟨κ28, e28, h⟩ := lt_e h
  refine e_iast K q26 (inb_e q27) d_ErrataRow_findGains_60 e28 ?_
  refine j_iconst (v := 0) K d_ErrataRow_findGains_61 (by decide) ?_
  refine j_istore (lv' := [(5, .int 0), (0, .ref this), (1, .int a1), (2, .int a2), (3, .int a3), (4, .int a4)]) K d_ErrataRow_findGains_62 (by decide) rfl ?_
  refine j_sub [1, 2, 3, 4, 5, 0] rfl ?_
  exact t_ErrataRow_findGains_64 K hN hr hlk N ρ N this a1 a2 a3 a4 0 κ28 h
def b_ErrataRow_areNotesSo_13 (N : Nat) : Nat → Nat → Int32 → Int32 → Cz → Option (Int32 × Cz)
  | 0, _, _, _, _ => none
  | n + 1, x0, x1, x2, κ => if x1 < x2 then some (1, κ) else ck (isK κ x0 11) (bo (fr κ x0 10) (fun o8 => bo (fr κ x0 12) (fun o9 => ck (isK κ o8 4) (bd (p_Press_printEdition N o8 o9 κ) (fun r10 κ10 => ck (isK κ10 x0 11) (bo (fr κ10 x0 7) (fun o13 => ck (isK κ10 o13 10) (bo (fr κ10 o13 2) (fun o15 => bo (fr κ10 x0 12) (fun o16 => ck (isK κ10 o16 8) (bo (fr κ10 o16 0) (fun o18 => ck (isK κ10 o15 3) (bd (p_Notes_isSo N o15 x2 o18 κ10) (fun r19 κ19 => if r19 = 0 then some (0, κ19) else lt (x2 + 1) (fun v21 => b_ErrataRow_areNotesSo_13 N n x0 x1 v21 κ19)))))))))))))))
set_option maxHeartbeats 4000000 in
set_option maxRecDepth 100000 in
theorem t_ErrataRow_areNotesSo_13 {p : Program} {l : Launch} {e : Env} {s : State} {m : MethodId} {args : Array Value} {below : List Frame} {meth : Method} {c : Code} {D : va_G} {θ : Tc} {A : Nat → Prop} (K : KE p s m args c c_ErrataRow_areNotesSo 3 "ErrataRow" y_ErrataRow_areNotesSo (some .boolean) D θ A) (hN : NX s) (hr : meth.sig.returnType = (some .boolean)) (hlk : meth.locks = false) (N : Nat) (ρ : Int32 × Cz) : ∀ (n : Nat) (x0 : Nat) (x1 : Int32) (x2 : Int32) (κ : Cz), b_ErrataRow_areNotesSo_13 N n x0 x1 x2 κ = some ρ → JE p l e (rmA 6 0 0) s m args below meth c D θ A 3 0 0 (QEi below args s D θ A 0 0 ρ) κ [(0, .ref x0), (1, .int x1), (2, .int x2)] [] 13 := by
  intro n
  induction n with
  | zero =>
    intro x0 x1 x2 κ h
    exact absurd h (by simp [b_ErrataRow_areNotesSo_13])
  | succ n ih =>
    intro x0 x1 x2 κ h
    rw [b_ErrataRow_areNotesSo_13] at h
    refine j_iload_n K 2 d_ErrataRow_areNotesSo_13 rfl rfl ?_
    refine j_iload_n K 1 d_ErrataRow_areNotesSo_14 rfl rfl ?_
    refine j_icmp_gt (tgt := 59) K d_ErrataRow_areNotesSo_15 (by decide) (fun q => ?_) (fun q => ?_)
    · have h := if_t h q
      refine j_iconst (v := 1) K d_ErrataRow_areNotesSo_59 (by decide) ?_
      exact eret_z K h rfl hr hlk d_ErrataRow_areNotesSo_60
    · have h := if_f h q
      refine j_aload_n K 0 d_ErrataRow_areNotesSo_18 rfl rfl ?_
      obtain ⟨q7, h⟩ := ck_e h
      refine eg_ErrataRow_press K ef_ErrataRow_69 q7 d_ErrataRow_areNotesSo_19 ?_
      obtain ⟨o8, e8, h⟩ := bo_e h
      refine j_eqq e8 ?_
      refine j_aload_n K 0 d_ErrataRow_areNotesSo_22 rfl rfl ?_
      refine eg_ErrataRow_trial K ef_ErrataRow_85 q7 d_ErrataRow_areNotesSo_23 ?_
      obtain ⟨o9, e9, h⟩ := bo_e h
      refine j_eqq e9 ?_
      obtain ⟨q11, h⟩ := ck_e h
      obtain ⟨r10, κ10, e10, h⟩ := bd_e h
      refine ecallV_i K hN (c_Press_printEdition_ok l D θ N o8 o9 κ _ e10) eG_ErrataRow_215 eh_Press_printEdition (by decide) (rmA_ok (by decide) (by decide)) rfl q11 (by decide) rfl (st := []) (Nat.le_of_ble_eq_true rfl) rfl d_ErrataRow_areNotesSo_26 ⟨Nat.le_of_ble_eq_true rfl, Nat.le_of_ble_eq_true rfl⟩ ?_
      refine j_pop K d_ErrataRow_areNotesSo_29 rfl ?_
      refine j_aload_n K 0 d_ErrataRow_areNotesSo_30 rfl rfl ?_
      obtain ⟨q12, h⟩ := ck_e h
      refine eg_ErrataRow_world K ef_ErrataRow_45 q12 d_ErrataRow_areNotesSo_31 ?_
      obtain ⟨o13, e13, h⟩ := bo_e h
      refine j_eqq e13 ?_
      obtain ⟨q14, h⟩ := ck_e h
      refine eg_World_notes K ef_ErrataRow_195 q14 d_ErrataRow_areNotesSo_34 ?_
      obtain ⟨o15, e15, h⟩ := bo_e h
      refine j_eqq e15 ?_
      refine j_iload_n K 2 d_ErrataRow_areNotesSo_37 rfl rfl ?_
      refine j_aload_n K 0 d_ErrataRow_areNotesSo_38 rfl rfl ?_
      refine eg_ErrataRow_trial K ef_ErrataRow_85 q12 d_ErrataRow_areNotesSo_39 ?_
      obtain ⟨o16, e16, h⟩ := bo_e h
      refine j_eqq e16 ?_
      obtain ⟨q17, h⟩ := ck_e h
      refine eg_State_put K ef_ErrataRow_148 q17 d_ErrataRow_areNotesSo_42 ?_
      obtain ⟨o18, e18, h⟩ := bo_e h
      refine j_eqq e18 ?_
      obtain ⟨q20, h⟩ := ck_e h
      obtain ⟨r19, κ19, e19, h⟩ := bd_e h
      refine ecallV_i K hN (c_Notes_isSo_ok l D θ N o15 x2 o18 κ10 _ e19) eG_ErrataRow_336 eh_Notes_isSo (by decide) (rmA_ok (by decide) (by decide)) rfl q20 (by decide) rfl (st := []) (Nat.le_of_ble_eq_true rfl) rfl d_ErrataRow_areNotesSo_45 ⟨Nat.le_of_ble_eq_true rfl, Nat.le_of_ble_eq_true rfl⟩ ?_
      refine j_if_ne (tgt := 53) K d_ErrataRow_areNotesSo_48 (by decide) (fun q => ?_) (fun q => ?_)
      · have h := if_f h q
        obtain ⟨v21, e21, h⟩ := lt_e h
        refine j_iinc (k := 2) (v := v21) (lv' := [(2, .int v21), (0, .ref x0), (1, .int x1)]) K d_ErrataRow_areNotesSo_53 rfl (by rw [e21]; rfl) (by decide) rfl ?_
        refine j_goto (tgt := 13) K d_ErrataRow_areNotesSo_56 (by decide) ?_
        refine j_sub [1, 2, 0] rfl ?_
        exact ih x0 x1 v21 κ19 h
      · have h := if_t h q
        refine j_iconst (v := 0) K d_ErrataRow_areNotesSo_51 (by decide) ?_
        exact eret_z K h rfl hr hlk d_ErrataRow_areNotesSo_52
def p_ErrataRow_areNotesSo (N : Nat) (this : Nat) (κ : Cz) : Option (Int32 × Cz) := ck (isK κ this 11) (bo (fr κ this 7) (fun o2 => ck (isK κ o2 10) (bo (fr κ o2 2) (fun o4 => ck (isK κ o4 3) (bd (p_Notes_last N o4 κ) (fun r5 κ5 => b_ErrataRow_areNotesSo_13 N N this r5 0 κ5))))))
set_option maxHeartbeats 4000000 in
set_option maxRecDepth 100000 in
theorem c_ErrataRow_areNotesSo_ok (l : Launch) (D : va_G) (θ : Tc) (N : Nat) (this : Nat) (κ : Cz) (ρ : Int32 × Cz) (h : p_ErrataRow_areNotesSo N this κ = some ρ) : CEi l D θ y_ErrataRow_areNotesSo c_ErrataRow_areNotesSo 3 (some .boolean) 6 0 0 [.ref this] κ ρ := by
  intro sz
  refine e_met l [.ref this] (by decide +kernel) (Nat.le_of_ble_eq_true rfl) ?_
  intro p e s m args below meth c K hN hr hlk hnm hs
  generalize va_A (wE θ κ) sz = A at K ⊢
  have K : KE p s m args c c_ErrataRow_areNotesSo 3 "ErrataRow" y_ErrataRow_areNotesSo (some .boolean) D θ A := K
  show JE p l e (rmA 6 0 0) s m args below meth c D θ A 3 0 0 (QEi below args s D θ A 0 0 ρ) κ [(0, .ref this)] [] 0
  unfold p_ErrataRow_areNotesSo at h
  refine j_aload_n K 0 d_ErrataRow_areNotesSo_0 rfl rfl ?_
  obtain ⟨q1, h⟩ := ck_e h
  refine eg_ErrataRow_world K ef_ErrataRow_45 q1 d_ErrataRow_areNotesSo_1 ?_
  obtain ⟨o2, e2, h⟩ := bo_e h
  refine j_eqq e2 ?_
  obtain ⟨q3, h⟩ := ck_e h
  refine eg_World_notes K ef_ErrataRow_195 q3 d_ErrataRow_areNotesSo_4 ?_
  obtain ⟨o4, e4, h⟩ := bo_e h
  refine j_eqq e4 ?_
  obtain ⟨q6, h⟩ := ck_e h
  obtain ⟨r5, κ5, e5, h⟩ := bd_e h
  refine ecallV_i K hN (c_Notes_last_ok l D θ N o4 κ _ e5) eG_ErrataRow_333 eh_Notes_last (by decide) (rmA_ok (by decide) (by decide)) rfl q6 (by decide) rfl (st := []) (Nat.le_of_ble_eq_true rfl) rfl d_ErrataRow_areNotesSo_7 ⟨Nat.le_of_ble_eq_true rfl, Nat.le_of_ble_eq_true rfl⟩ ?_
  refine j_istore_n (lv' := [(1, .int r5), (0, .ref this)]) K d_ErrataRow_areNotesSo_10 rfl (by decide) rfl ?_
  refine j_iconst (v := 0) K d_ErrataRow_areNotesSo_11 (by decide) ?_
  refine j_istore_n (lv' := [(2, .int 0), (1, .int r5), (0, .ref this)]) K d_ErrataRow_areNotesSo_12 rfl (by decide) rfl ?_
  refine j_sub [2, 1, 0] rfl ?_
  exact t_ErrataRow_areNotesSo_13 K hN hr hlk N ρ N this r5 0 κ5 h
def b_ErrataRow_slips_95 (N : Nat) (k75 : Nat → Int32 → Int32 → Int32 → Int32 → Int32 → Int32 → Int32 → Int32 → Cz → Option (Int32 × Cz)) : Nat → Nat → Int32 → Int32 → Int32 → Int32 → Int32 → Int32 → Int32 → Int32 → Int32 → Cz → Option (Int32 × Cz)
  | 0, _, _, _, _, _, _, _, _, _, _, _ => none
  | n + 1, x0, x1, x2, x3, x4, x5, x6, x7, x8, x9, κ => if x2 ≤ x9 then ck (isK κ x0 11) (bo (fr κ x0 10) (fun o20 => bo (fr κ x0 12) (fun o21 => ck (isK κ o20 4) (bd (p_Press_howManyWrong N o20 o21 κ) (fun r22 κ22 => lt (x5 + r22) (fun v24 => ck (isK κ22 x0 11) (bo (fr κ22 x0 12) (fun o26 => ck (isK κ22 o26 8) (lt (x6 + (fi κ22 o26 4)) (fun v28 => lt (x8 + 1) (fun v29 => k75 x0 x1 x2 x3 x4 v24 v28 x7 v29 κ22))))))))))) else ck (isK κ x0 11) (bd (p_ErrataRow_slip N x0 x7 x3 κ) (fun r30 κ30 => ck (isK κ30 x0 11) (bo (fr κ30 x0 10) (fun o33 => bo (fr κ30 x0 12) (fun o34 => ck (isK κ30 o33 4) (bd (p_Press_printEdition N o33 o34 κ30) (fun r35 κ35 => lt (x9 + 1) (fun v37 => b_ErrataRow_slips_95 N k75 n x0 x1 x2 x3 x4 x5 x6 r30 x8 v37 κ35))))))))
set_option maxHeartbeats 4000000 in
set_option maxRecDepth 100000 in
theorem t_ErrataRow_slips_95 {p : Program} {l : Launch} {e : Env} {s : State} {m : MethodId} {args : Array Value} {below : List Frame} {meth : Method} {c : Code} {D : va_G} {θ : Tc} {A : Nat → Prop} (K : KE p s m args c c_ErrataRow_slips 10 "ErrataRow" y_ErrataRow_slips (some .int) D θ A) (hN : NX s) (hr : meth.sig.returnType = (some .int)) (hlk : meth.locks = false) (N : Nat) (ρ : Int32 × Cz) (k75 : Nat → Int32 → Int32 → Int32 → Int32 → Int32 → Int32 → Int32 → Int32 → Cz → Option (Int32 × Cz)) (hk75 : ∀ (x0 : Nat) (x1 : Int32) (x2 : Int32) (x3 : Int32) (x4 : Int32) (x5 : Int32) (x6 : Int32) (x7 : Int32) (x8 : Int32) (κ : Cz), k75 x0 x1 x2 x3 x4 x5 x6 x7 x8 κ = some ρ → JE p l e (rmA 6 0 0) s m args below meth c D θ A 10 0 0 (QEi below args s D θ A 0 0 ρ) κ [(0, .ref x0), (1, .int x1), (2, .int x2), (3, .int x3), (4, .int x4), (5, .int x5), (6, .int x6), (7, .int x7), (8, .int x8)] [] 75) : ∀ (n : Nat) (x0 : Nat) (x1 : Int32) (x2 : Int32) (x3 : Int32) (x4 : Int32) (x5 : Int32) (x6 : Int32) (x7 : Int32) (x8 : Int32) (x9 : Int32) (κ : Cz), b_ErrataRow_slips_95 N k75 n x0 x1 x2 x3 x4 x5 x6 x7 x8 x9 κ = some ρ → JE p l e (rmA 6 0 0) s m args below meth c D θ A 10 0 0 (QEi below args s D θ A 0 0 ρ) κ [(0, .ref x0), (1, .int x1), (2, .int x2), (3, .int x3), (4, .int x4), (5, .int x5), (6, .int x6), (7, .int x7), (8, .int x8), (9, .int x9)] [] 95 := by
  intro n
  induction n with
  | zero =>
    intro x0 x1 x2 x3 x4 x5 x6 x7 x8 x9 κ h
    exact absurd h (by simp [b_ErrataRow_slips_95])
  | succ n ih =>
    intro x0 x1 x2 x3 x4 x5 x6 x7 x8 x9 κ h
    rw [b_ErrataRow_slips_95] at h
    refine j_iload K 9 d_ErrataRow_slips_95 rfl ?_
    refine j_iload_n K 2 d_ErrataRow_slips_97 rfl rfl ?_
    refine j_icmp_ge (tgt := 128) K d_ErrataRow_slips_98 (by decide) (fun q => ?_) (fun q => ?_)
    · have h := if_t h q
      refine j_iload K 5 d_ErrataRow_slips_128 rfl ?_
      refine j_aload_n K 0 d_ErrataRow_slips_130 rfl rfl ?_
      obtain ⟨q19, h⟩ := ck_e h
      refine eg_ErrataRow_press K ef_ErrataRow_69 q19 d_ErrataRow_slips_131 ?_
      obtain ⟨o20, e20, h⟩ := bo_e h
      refine j_eqq e20 ?_
      refine j_aload_n K 0 d_ErrataRow_slips_134 rfl rfl ?_
      refine eg_ErrataRow_trial K ef_ErrataRow_85 q19 d_ErrataRow_slips_135 ?_
      obtain ⟨o21, e21, h⟩ := bo_e h
      refine j_eqq e21 ?_
      obtain ⟨q23, h⟩ := ck_e h
      obtain ⟨r22, κ22, e22, h⟩ := bd_e h
      refine ecallV_i K hN (c_Press_howManyWrong_ok l D θ N o20 o21 κ _ e22) eG_ErrataRow_225 eh_Press_howManyWrong (by decide) (rmA_ok (by decide) (by decide)) rfl q23 (by decide) rfl (st := [.int x5]) (Nat.le_of_ble_eq_true rfl) rfl d_ErrataRow_slips_138 ⟨Nat.le_of_ble_eq_true rfl, Nat.le_of_ble_eq_true rfl⟩ ?_
      refine j_iadd K d_ErrataRow_slips_141 ?_
      obtain ⟨v24, e24, h⟩ := lt_e h
      refine j_eqi e24 ?_
      refine j_istore (lv' := [(5, .int v24), (0, .ref x0), (1, .int x1), (2, .int x2), (3, .int x3), (4, .int x4), (6, .int x6), (7, .int x7), (8, .int x8), (9, .int x9)]) K d_ErrataRow_slips_142 (by decide) rfl ?_
      refine j_iload K 6 d_ErrataRow_slips_144 rfl ?_
      refine j_aload_n K 1 d_ErrataRow_slips_146 rfl rfl ?_
      obtain ⟨q25, h⟩ := ck_e h
      refine eg_ErrataRow_trial K ef_ErrataRow_85 q25 d_ErrataRow_slips_147 ?_
      obtain ⟨o26, e26, h⟩ := bo_e h
      refine j_eqq e26 ?_
      obtain ⟨q27, h⟩ := ck_e h
      refine eg_State_owed K ef_ErrataRow_192 q27 d_ErrataRow_slips_150 ?_
      refine j_iadd K d_ErrataRow_slips_153 ?_
      obtain ⟨v28, e28, h⟩ := lt_e h
      refine j_eqi e28 ?_
      refine j_istore (lv' := [(6, .int v28), (5, .int v24), (0, .ref x0), (1, .int x1), (2, .int x2), (3, .int x3), (4, .int x4), (7, .int x7), (8, .int x8), (9, .int x9)]) K d_ErrataRow_slips_154 (by decide) rfl ?_
      obtain ⟨v29, e29, h⟩ := lt_e h
      refine j_iinc (k := 8) (v := v29) (lv' := [(8, .int v29), (6, .int v28), (5, .int v24), (0, .ref x0), (1, .int x1), (2, .int x2), (3, .int x3), (4, .int x4), (7, .int x7), (9, .int x9)]) K d_ErrataRow_slips_156 rfl (by rw [e29]; rfl) (by decide) rfl ?_
      refine j_goto (tgt := 75) K d_ErrataRow_slips_159 (by decide) ?_
      refine j_sub [3, 4, 5, 6, 7, 2, 1, 8, 0] rfl ?_
      exact hk75 x0 x1 x2 x3 x4 v24 v28 x7 v29 κ22 h
    · have h := if_f h q
      refine j_aload_n K 0 d_ErrataRow_slips_101 rfl rfl ?_
      refine j_iload K 7 d_ErrataRow_slips_102 rfl ?_
      refine j_iload_n K 3 d_ErrataRow_slips_104 rfl rfl ?_
      obtain ⟨q31, h⟩ := ck_e h
      obtain ⟨r30, κ30, e30, h⟩ := bd_e h
      refine ecallV_i K hN (c_ErrataRow_slip_ok l D θ N x0 x7 x3 κ _ e30) eG_ErrataRow_355 eh_ErrataRow_slip (by decide) (rmA_ok (by decide) (by decide)) rfl q31 (by decide) rfl (st := []) (Nat.le_of_ble_eq_true rfl) rfl d_ErrataRow_slips_105 ⟨Nat.le_of_ble_eq_true rfl, Nat.le_of_ble_eq_true rfl⟩ ?_
      refine j_istore (lv' := [(7, .int r30), (0, .ref x0), (1, .int x1), (2, .int x2), (3, .int x3), (4, .int x4), (5, .int x5), (6, .int x6), (8, .int x8), (9, .int x9)]) K d_ErrataRow_slips_108 (by decide) rfl ?_
      refine j_aload_n K 1 d_ErrataRow_slips_110 rfl rfl ?_
      obtain ⟨q32, h⟩ := ck_e h
      refine eg_ErrataRow_press K ef_ErrataRow_69 q32 d_ErrataRow_slips_111 ?_
      obtain ⟨o33, e33, h⟩ := bo_e h
      refine j_eqq e33 ?_
      refine j_aload_n K 1 d_ErrataRow_slips_114 rfl rfl ?_
      refine eg_ErrataRow_trial K ef_ErrataRow_85 q32 d_ErrataRow_slips_115 ?_
      obtain ⟨o34, e34, h⟩ := bo_e h
      refine j_eqq e34 ?_
      obtain ⟨q36, h⟩ := ck_e h
      obtain ⟨r35, κ35, e35, h⟩ := bd_e h
      refine ecallV_i K hN (c_Press_printEdition_ok l D θ N o33 o34 κ30 _ e35) eG_ErrataRow_215 eh_Press_printEdition (by decide) (rmA_ok (by decide) (by decide)) rfl q36 (by decide) rfl (st := []) (Nat.le_of_ble_eq_true rfl) rfl d_ErrataRow_slips_118 ⟨Nat.le_of_ble_eq_true rfl, Nat.le_of_ble_eq_true rfl⟩ ?_
      refine j_pop K d_ErrataRow_slips_121 rfl ?_
      obtain ⟨v37, e37, h⟩ := lt_e h
      refine j_iinc (k := 9) (v := v37) (lv' := [(9, .int v37), (7, .int r30), (0, .ref x0), (1, .int x1), (2, .int x2), (3, .int x3), (4, .int x4), (5, .int x5), (6, .int x6), (8, .int x8)]) K d_ErrataRow_slips_122 rfl (by rw [e37]; rfl) (by decide) rfl ?_
      refine j_goto (tgt := 95) K d_ErrataRow_slips_125 (by decide) ?_
      refine j_sub [2, 3, 4, 5, 6, 7, 8, 1, 9, 0] rfl ?_
      exact ih x0 x1 x2 x3 x4 x5 x6 r30 x8 v37 κ35 h
def b_ErrataRow_slips_75 (N : Nat) : Nat → Nat → Int32 → Int32 → Int32 → Int32 → Int32 → Int32 → Int32 → Int32 → Cz → Option (Int32 × Cz)
  | 0, _, _, _, _, _, _, _, _, _, _ => none
  | n + 1, x0, x1, x2, x3, x4, x5, x6, x7, x8, κ => if x1 ≤ x8 then if x4 = 0 then some (x5, κ) else some (x6, κ) else ck (isK κ x0 11) (bo (fr κ x0 7) (fun o15 => ck (isK κ o15 10) (bo (fr κ o15 1) (fun o17 => bo (p_ErrataRow_startFrom N x0 o17 κ) (fun κ18 => b_ErrataRow_slips_95 N (b_ErrataRow_slips_75 N n) N x0 x1 x2 x3 x4 x5 x6 x7 x8 0 κ18)))))
set_option maxHeartbeats 4000000 in
set_option maxRecDepth 100000 in
theorem t_ErrataRow_slips_75 {p : Program} {l : Launch} {e : Env} {s : State} {m : MethodId} {args : Array Value} {below : List Frame} {meth : Method} {c : Code} {D : va_G} {θ : Tc} {A : Nat → Prop} (K : KE p s m args c c_ErrataRow_slips 10 "ErrataRow" y_ErrataRow_slips (some .int) D θ A) (hN : NX s) (hr : meth.sig.returnType = (some .int)) (hlk : meth.locks = false) (N : Nat) (ρ : Int32 × Cz) : ∀ (n : Nat) (x0 : Nat) (x1 : Int32) (x2 : Int32) (x3 : Int32) (x4 : Int32) (x5 : Int32) (x6 : Int32) (x7 : Int32) (x8 : Int32) (κ : Cz), b_ErrataRow_slips_75 N n x0 x1 x2 x3 x4 x5 x6 x7 x8 κ = some ρ → JE p l e (rmA 6 0 0) s m args below meth c D θ A 10 0 0 (QEi below args s D θ A 0 0 ρ) κ [(0, .ref x0), (1, .int x1), (2, .int x2), (3, .int x3), (4, .int x4), (5, .int x5), (6, .int x6), (7, .int x7), (8, .int x8)] [] 75 := by
  intro n
  induction n with
  | zero =>
    intro x0 x1 x2 x3 x4 x5 x6 x7 x8 κ h
    exact absurd h (by simp [b_ErrataRow_slips_75])
  | succ n ih =>
    intro x0 x1 x2 x3 x4 x5 x6 x7 x8 κ h
    rw [b_ErrataRow_slips_75] at h
    refine j_iload K 8 d_ErrataRow_slips_75 rfl ?_
    refine j_iload_n K 1 d_ErrataRow_slips_77 rfl rfl ?_
    refine j_icmp_ge (tgt := 162) K d_ErrataRow_slips_78 (by decide) (fun q => ?_) (fun q => ?_)
    · have h := if_t h q
      refine j_iload K 4 d_ErrataRow_slips_162 rfl ?_
      refine j_if_ne (tgt := 172) K d_ErrataRow_slips_164 (by decide) (fun q => ?_) (fun q => ?_)
      · have h := if_f h q
        refine j_iload K 6 d_ErrataRow_slips_172 rfl ?_
        exact eret_i K h hr hlk d_ErrataRow_slips_174
      · have h := if_t h q
        refine j_iload K 5 d_ErrataRow_slips_167 rfl ?_
        refine j_goto (tgt := 174) K d_ErrataRow_slips_169 (by decide) ?_
        exact eret_i K h hr hlk d_ErrataRow_slips_174
    · have h := if_f h q
      refine j_aload_n K 0 d_ErrataRow_slips_81 rfl rfl ?_
      refine j_aload_n K 0 d_ErrataRow_slips_82 rfl rfl ?_
      obtain ⟨q14, h⟩ := ck_e h
      refine eg_ErrataRow_world K ef_ErrataRow_45 q14 d_ErrataRow_slips_83 ?_
      obtain ⟨o15, e15, h⟩ := bo_e h
      refine j_eqq e15 ?_
      obtain ⟨q16, h⟩ := ck_e h
      refine eg_World_now K ef_ErrataRow_145 q16 d_ErrataRow_slips_86 ?_
      obtain ⟨o17, e17, h⟩ := bo_e h
      refine j_eqq e17 ?_
      obtain ⟨κ18, e18, h⟩ := bo_e h
      refine ecallV_v K hN (c_ErrataRow_startFrom_ok l D θ N x0 o17 κ _ e18) eG_ErrataRow_252 eh_ErrataRow_startFrom (by decide) (rmA_ok (by decide) (by decide)) rfl q14 (by decide) rfl (st := []) (Nat.le_of_ble_eq_true rfl) rfl d_ErrataRow_slips_89 ⟨Nat.le_of_ble_eq_true rfl, Nat.le_of_ble_eq_true rfl⟩ ?_
      refine j_iconst (v := 0) K d_ErrataRow_slips_92 (by decide) ?_
      refine j_istore (lv' := [(9, .int 0), (0, .ref x0), (1, .int x1), (2, .int x2), (3, .int x3), (4, .int x4), (5, .int x5), (6, .int x6), (7, .int x7), (8, .int x8)]) K d_ErrataRow_slips_93 (by decide) rfl ?_
      refine j_sub [1, 2, 3, 4, 5, 6, 7, 8, 9, 0] rfl ?_
      exact t_ErrataRow_slips_95 K hN hr hlk N ρ (b_ErrataRow_slips_75 N n) ih N x0 x1 x2 x3 x4 x5 x6 x7 x8 0 κ18 h
def p_ErrataRow_slips (N : Nat) (this : Nat) (a1 : Int32) (a2 : Int32) (a3 : Int32) (a4 : Int32) (κ : Cz) : Option (Int32 × Cz) := ck (isK κ this 11) (bo (fr κ this 7) (fun o2 => ck (isK κ o2 10) (bo (fr κ o2 0) (fun o4 => ck (isK κ o4 0) (if (fi κ o4 0) = 0 then some ((-1), κ) else bd (p_ErrataRow_within N a1 1 10 κ) (fun r6 κ6 => if r6 = 0 then some ((-1), κ6) else bd (p_ErrataRow_within N a2 1 60 κ6) (fun r7 κ7 => if r7 = 0 then some ((-1), κ7) else bd (p_ErrataRow_within N a3 0 100 κ7) (fun r8 κ8 => if r8 = 0 then some ((-1), κ8) else bd (p_ErrataRow_within N a4 0 1 κ8) (fun r9 κ9 => if r9 = 0 then some ((-1), κ9) else ck (isK κ9 this 11) (bo (fr κ9 this 7) (fun o11 => ck (isK κ9 o11 10) (lt (fi κ9 o11 4) (fun v13 => b_ErrataRow_slips_75 N N this a1 a2 a3 a4 0 0 v13 0 κ9)))))))))))))
set_option maxHeartbeats 4000000 in
set_option maxRecDepth 100000 in
theorem c_ErrataRow_slips_ok (l : Launch) (D : va_G) (θ : Tc) (N : Nat) (this : Nat) (a1 : Int32) (a2 : Int32) (a3 : Int32) (a4 : Int32) (κ : Cz) (ρ : Int32 × Cz) (h : p_ErrataRow_slips N this a1 a2 a3 a4 κ = some ρ) : CEi l D θ y_ErrataRow_slips c_ErrataRow_slips 10 (some .int) 6 0 0 [.ref this, .int a1, .int a2, .int a3, .int a4] κ ρ := by
  intro sz
  refine e_met l [.ref this, .int a1, .int a2, .int a3, .int a4] (by decide +kernel) (Nat.le_of_ble_eq_true rfl) ?_
  intro p e s m args below meth c K hN hr hlk hnm hs
  generalize va_A (wE θ κ) sz = A at K ⊢
  have K : KE p s m args c c_ErrataRow_slips 10 "ErrataRow" y_ErrataRow_slips (some .int) D θ A := K
  show JE p l e (rmA 6 0 0) s m args below meth c D θ A 10 0 0 (QEi below args s D θ A 0 0 ρ) κ [(0, .ref this), (1, .int a1), (2, .int a2), (3, .int a3), (4, .int a4)] [] 0
  unfold p_ErrataRow_slips at h
  refine j_aload_n K 0 d_ErrataRow_slips_0 rfl rfl ?_
  obtain ⟨q1, h⟩ := ck_e h
  refine eg_ErrataRow_world K ef_ErrataRow_45 q1 d_ErrataRow_slips_1 ?_
  obtain ⟨o2, e2, h⟩ := bo_e h
  refine j_eqq e2 ?_
  obtain ⟨q3, h⟩ := ck_e h
  refine eg_World_book K ef_ErrataRow_62 q3 d_ErrataRow_slips_4 ?_
  obtain ⟨o4, e4, h⟩ := bo_e h
  refine j_eqq e4 ?_
  obtain ⟨q5, h⟩ := ck_e h
  refine eg_Book_told K ef_ErrataRow_160 q5 d_ErrataRow_slips_7 ?_
  refine j_if_eq (tgt := 33) K d_ErrataRow_slips_10 (by decide) (fun q => ?_) (fun q => ?_)
  · have h := if_t h q
    refine j_iconst (v := (-1)) K d_ErrataRow_slips_33 (by decide) ?_
    exact eret_i K h hr hlk d_ErrataRow_slips_34
  · have h := if_f h q
    refine j_iload_n K 1 d_ErrataRow_slips_13 rfl rfl ?_
    refine j_iconst (v := 1) K d_ErrataRow_slips_14 (by decide) ?_
    refine j_bipush (v := 10) K d_ErrataRow_slips_15 (by decide) ?_
    obtain ⟨r6, κ6, e6, h⟩ := bd_e h
    refine ecallS_i K hN (c_ErrataRow_within_ok l D θ N a1 1 10 κ _ e6) eG_ErrataRow_166 eh_ErrataRow_within (by decide) (rmA_ok (by decide) (by decide)) rfl (st := []) (Nat.le_of_ble_eq_true rfl) rfl d_ErrataRow_slips_17 ⟨Nat.le_of_ble_eq_true rfl, Nat.le_of_ble_eq_true rfl⟩ ?_
    refine j_if_eq (tgt := 33) K d_ErrataRow_slips_20 (by decide) (fun q => ?_) (fun q => ?_)
    · have h := if_t h q
      refine j_iconst (v := (-1)) K d_ErrataRow_slips_33 (by decide) ?_
      exact eret_i K h hr hlk d_ErrataRow_slips_34
    · have h := if_f h q
      refine j_iload_n K 2 d_ErrataRow_slips_23 rfl rfl ?_
      refine j_iconst (v := 1) K d_ErrataRow_slips_24 (by decide) ?_
      refine j_bipush (v := 60) K d_ErrataRow_slips_25 (by decide) ?_
      obtain ⟨r7, κ7, e7, h⟩ := bd_e h
      refine ecallS_i K hN (c_ErrataRow_within_ok l D θ N a2 1 60 κ6 _ e7) eG_ErrataRow_166 eh_ErrataRow_within (by decide) (rmA_ok (by decide) (by decide)) rfl (st := []) (Nat.le_of_ble_eq_true rfl) rfl d_ErrataRow_slips_27 ⟨Nat.le_of_ble_eq_true rfl, Nat.le_of_ble_eq_true rfl⟩ ?_
      refine j_if_ne (tgt := 35) K d_ErrataRow_slips_30 (by decide) (fun q => ?_) (fun q => ?_)
      · have h := if_f h q
        refine j_iload_n K 3 d_ErrataRow_slips_35 rfl rfl ?_
        refine j_iconst (v := 0) K d_ErrataRow_slips_36 (by decide) ?_
        refine j_bipush (v := 100) K d_ErrataRow_slips_37 (by decide) ?_
        obtain ⟨r8, κ8, e8, h⟩ := bd_e h
        refine ecallS_i K hN (c_ErrataRow_within_ok l D θ N a3 0 100 κ7 _ e8) eG_ErrataRow_166 eh_ErrataRow_within (by decide) (rmA_ok (by decide) (by decide)) rfl (st := []) (Nat.le_of_ble_eq_true rfl) rfl d_ErrataRow_slips_39 ⟨Nat.le_of_ble_eq_true rfl, Nat.le_of_ble_eq_true rfl⟩ ?_
        refine j_if_eq (tgt := 55) K d_ErrataRow_slips_42 (by decide) (fun q => ?_) (fun q => ?_)
        · have h := if_t h q
          refine j_iconst (v := (-1)) K d_ErrataRow_slips_55 (by decide) ?_
          exact eret_i K h hr hlk d_ErrataRow_slips_56
        · have h := if_f h q
          refine j_iload K 4 d_ErrataRow_slips_45 rfl ?_
          refine j_iconst (v := 0) K d_ErrataRow_slips_47 (by decide) ?_
          refine j_iconst (v := 1) K d_ErrataRow_slips_48 (by decide) ?_
          obtain ⟨r9, κ9, e9, h⟩ := bd_e h
          refine ecallS_i K hN (c_ErrataRow_within_ok l D θ N a4 0 1 κ8 _ e9) eG_ErrataRow_166 eh_ErrataRow_within (by decide) (rmA_ok (by decide) (by decide)) rfl (st := []) (Nat.le_of_ble_eq_true rfl) rfl d_ErrataRow_slips_49 ⟨Nat.le_of_ble_eq_true rfl, Nat.le_of_ble_eq_true rfl⟩ ?_
          refine j_if_ne (tgt := 57) K d_ErrataRow_slips_52 (by decide) (fun q => ?_) (fun q => ?_)
          · have h := if_f h q
            refine j_iconst (v := 0) K d_ErrataRow_slips_57 (by decide) ?_
            refine j_istore (lv' := [(5, .int 0), (0, .ref this), (1, .int a1), (2, .int a2), (3, .int a3), (4, .int a4)]) K d_ErrataRow_slips_58 (by decide) rfl ?_
            refine j_iconst (v := 0) K d_ErrataRow_slips_60 (by decide) ?_
            refine j_istore (lv' := [(6, .int 0), (5, .int 0), (0, .ref this), (1, .int a1), (2, .int a2), (3, .int a3), (4, .int a4)]) K d_ErrataRow_slips_61 (by decide) rfl ?_
            refine j_aload_n K 2 d_ErrataRow_slips_63 rfl rfl ?_
            obtain ⟨q10, h⟩ := ck_e h
            refine eg_ErrataRow_world K ef_ErrataRow_45 q10 d_ErrataRow_slips_64 ?_
            obtain ⟨o11, e11, h⟩ := bo_e h
            refine j_eqq e11 ?_
            obtain ⟨q12, h⟩ := ck_e h
            refine eg_World_x K ef_ErrataRow_205 q12 d_ErrataRow_slips_67 ?_
            obtain ⟨v13, e13, h⟩ := lt_e h
            refine j_eqi e13 ?_
            refine j_istore (lv' := [(7, .int v13), (6, .int 0), (5, .int 0), (0, .ref this), (1, .int a1), (2, .int a2), (3, .int a3), (4, .int a4)]) K d_ErrataRow_slips_70 (by decide) rfl ?_
            refine j_iconst (v := 0) K d_ErrataRow_slips_72 (by decide) ?_
            refine j_istore (lv' := [(8, .int 0), (7, .int v13), (6, .int 0), (5, .int 0), (0, .ref this), (1, .int a1), (2, .int a2), (3, .int a3), (4, .int a4)]) K d_ErrataRow_slips_73 (by decide) rfl ?_
            refine j_sub [4, 5, 6, 7, 8, 3, 2, 1, 0] rfl ?_
            exact t_ErrataRow_slips_75 K hN hr hlk N ρ N this a1 a2 a3 a4 0 0 v13 0 κ9 h
          · have h := if_t h q
            refine j_iconst (v := (-1)) K d_ErrataRow_slips_55 (by decide) ?_
            exact eret_i K h hr hlk d_ErrataRow_slips_56
      · have h := if_t h q
        refine j_iconst (v := (-1)) K d_ErrataRow_slips_33 (by decide) ?_
        exact eret_i K h hr hlk d_ErrataRow_slips_34
def b_ErrataRow_ahead_48 (N : Nat) (x0 : Nat) (x1 : Int32) (x2 : Int32) (x3 : Int32) (κ : Cz) : Option (Int32 × Cz) := ck (isK κ x0 11) (bo (fr κ x0 7) (fun o9 => ck (isK κ o9 10) (bo (fr κ o9 1) (fun o11 => bo (p_ErrataRow_startFrom N x0 o11 κ) (fun κ12 => ck (isK κ12 x0 11) (bo (p_ErrataRow_goOn N x0 x2 κ12) (fun κ13 => if x3.toInt < 0 ∨ 2 < x3.toInt then ck (isK κ13 x0 11) (bo (fr κ13 x0 12) (fun o16 => ck (isK κ13 o16 8) (some (fi κ13 o16 4, κ13)))) else if x3 = 0 then ck (isK κ13 x0 11) (bo (fr κ13 x0 12) (fun o19 => ck (isK κ13 o19 8) (bo (fr κ13 o19 0) (fun o21 => ck (isK κ13 o21 20) (ck (inb x1 (ln κ13 o21)) (some (ai κ13 o21 x1.toNatClampNeg, κ13))))))) else if x3 = 1 then ck (isK κ13 x0 11) (bo (fr κ13 x0 10) (fun o25 => bo (fr κ13 x0 12) (fun o26 => ck (isK κ13 o25 4) (bd (p_Press_wrongOf N o25 o26 κ13) (fun r27 κ27 => some (r27, κ27)))))) else if x3 = 2 then ck (isK κ13 x0 11) (bo (fr κ13 x0 12) (fun o30 => ck (isK κ13 o30 8) (some (fi κ13 o30 3, κ13)))) else none)))))))
set_option maxHeartbeats 4000000 in
set_option maxRecDepth 100000 in
theorem t_ErrataRow_ahead_48 {p : Program} {l : Launch} {e : Env} {s : State} {m : MethodId} {args : Array Value} {below : List Frame} {meth : Method} {c : Code} {D : va_G} {θ : Tc} {A : Nat → Prop} (K : KE p s m args c c_ErrataRow_ahead 4 "ErrataRow" y_ErrataRow_ahead (some .int) D θ A) (hN : NX s) (hr : meth.sig.returnType = (some .int)) (hlk : meth.locks = false) (N : Nat) (ρ : Int32 × Cz) (x0 : Nat) (x1 : Int32) (x2 : Int32) (x3 : Int32) (κ : Cz) (h : b_ErrataRow_ahead_48 N x0 x1 x2 x3 κ = some ρ) : JE p l e (rmA 7 0 0) s m args below meth c D θ A 4 0 0 (QEi below args s D θ A 0 0 ρ) κ [(0, .ref x0), (1, .int x1), (2, .int x2), (3, .int x3)] [] 48 := by
  unfold b_ErrataRow_ahead_48 at h
  refine j_aload_n K 0 d_ErrataRow_ahead_48 rfl rfl ?_
  refine j_aload_n K 0 d_ErrataRow_ahead_49 rfl rfl ?_
  obtain ⟨q8, h⟩ := ck_e h
  refine eg_ErrataRow_world K ef_ErrataRow_45 q8 d_ErrataRow_ahead_50 ?_
  obtain ⟨o9, e9, h⟩ := bo_e h
  refine j_eqq e9 ?_
  obtain ⟨q10, h⟩ := ck_e h
  refine eg_World_now K ef_ErrataRow_145 q10 d_ErrataRow_ahead_53 ?_
  obtain ⟨o11, e11, h⟩ := bo_e h
  refine j_eqq e11 ?_
  obtain ⟨κ12, e12, h⟩ := bo_e h
  refine ecallV_v K hN (c_ErrataRow_startFrom_ok l D θ N x0 o11 κ _ e12) eG_ErrataRow_252 eh_ErrataRow_startFrom (by decide) (rmA_ok (by decide) (by decide)) rfl q8 (by decide) rfl (st := []) (Nat.le_of_ble_eq_true rfl) rfl d_ErrataRow_ahead_56 ⟨Nat.le_of_ble_eq_true rfl, Nat.le_of_ble_eq_true rfl⟩ ?_
  refine j_aload_n K 0 d_ErrataRow_ahead_59 rfl rfl ?_
  refine j_iload_n K 2 d_ErrataRow_ahead_60 rfl rfl ?_
  obtain ⟨q14, h⟩ := ck_e h
  obtain ⟨κ13, e13, h⟩ := bo_e h
  refine ecallV_v K hN (c_ErrataRow_goOn_ok l D θ N x0 x2 κ12 _ e13) eG_ErrataRow_255 eh_ErrataRow_goOn (by decide) (rmA_ok (by decide) (by decide)) rfl q14 (by decide) rfl (st := []) (Nat.le_of_ble_eq_true rfl) rfl d_ErrataRow_ahead_61 ⟨Nat.le_of_ble_eq_true rfl, Nat.le_of_ble_eq_true rfl⟩ ?_
  refine j_iload_n K 3 d_ErrataRow_ahead_64 rfl rfl ?_
  by_cases q : x3.toInt < 0 ∨ 2 < x3.toInt
  · have h := if_t h q
    refine j_tabOut (tgt := 122) K d_ErrataRow_ahead_65 q (by decide) ?_
    refine j_aload_n K 0 d_ErrataRow_ahead_122 rfl rfl ?_
    obtain ⟨q15, h⟩ := ck_e h
    refine eg_ErrataRow_trial K ef_ErrataRow_85 q15 d_ErrataRow_ahead_123 ?_
    obtain ⟨o16, e16, h⟩ := bo_e h
    refine j_eqq e16 ?_
    obtain ⟨q17, h⟩ := ck_e h
    refine eg_State_owed K ef_ErrataRow_192 q17 d_ErrataRow_ahead_126 ?_
    exact eret_i K h hr hlk d_ErrataRow_ahead_129
  · have h := if_f h q
    by_cases q : x3 = 0
    · have h := if_t h q
      have q1 : x3.toInt = 0 := by rw [q]; decide
      refine j_tabIn (tgt := 92) K d_ErrataRow_ahead_65 (by rw [q1]; decide) (by rw [q1]; decide) (by rw [q1]; rfl) (by decide) ?_
      refine j_aload_n K 0 d_ErrataRow_ahead_92 rfl rfl ?_
      obtain ⟨q18, h⟩ := ck_e h
      refine eg_ErrataRow_trial K ef_ErrataRow_85 q18 d_ErrataRow_ahead_93 ?_
      obtain ⟨o19, e19, h⟩ := bo_e h
      refine j_eqq e19 ?_
      obtain ⟨q20, h⟩ := ck_e h
      refine eg_State_put K ef_ErrataRow_148 q20 d_ErrataRow_ahead_96 ?_
      obtain ⟨o21, e21, h⟩ := bo_e h
      refine j_eqq e21 ?_
      refine j_iload_n K 1 d_ErrataRow_ahead_99 rfl rfl ?_
      obtain ⟨q22, h⟩ := ck_e h
      obtain ⟨q23, h⟩ := ck_e h
      refine e_iald K q22 (inb_e q23) d_ErrataRow_ahead_100 ?_
      exact eret_i K h hr hlk d_ErrataRow_ahead_101
    have h := if_f h q
    by_cases q : x3 = 1
    · have h := if_t h q
      have q1 : x3.toInt = 1 := by rw [q]; decide
      refine j_tabIn (tgt := 102) K d_ErrataRow_ahead_65 (by rw [q1]; decide) (by rw [q1]; decide) (by rw [q1]; rfl) (by decide) ?_
      refine j_aload_n K 0 d_ErrataRow_ahead_102 rfl rfl ?_
      obtain ⟨q24, h⟩ := ck_e h
      refine eg_ErrataRow_press K ef_ErrataRow_69 q24 d_ErrataRow_ahead_103 ?_
      obtain ⟨o25, e25, h⟩ := bo_e h
      refine j_eqq e25 ?_
      refine j_aload_n K 0 d_ErrataRow_ahead_106 rfl rfl ?_
      refine eg_ErrataRow_trial K ef_ErrataRow_85 q24 d_ErrataRow_ahead_107 ?_
      obtain ⟨o26, e26, h⟩ := bo_e h
      refine j_eqq e26 ?_
      obtain ⟨q28, h⟩ := ck_e h
      obtain ⟨r27, κ27, e27, h⟩ := bd_e h
      refine ecallV_i K hN (c_Press_wrongOf_ok l D θ N o25 o26 κ13 _ e27) eG_ErrataRow_182 eh_Press_wrongOf (by decide) (rmA_ok (by decide) (by decide)) rfl q28 (by decide) rfl (st := []) (Nat.le_of_ble_eq_true rfl) rfl d_ErrataRow_ahead_110 ⟨Nat.le_of_ble_eq_true rfl, Nat.le_of_ble_eq_true rfl⟩ ?_
      exact eret_i K h hr hlk d_ErrataRow_ahead_113
    have h := if_f h q
    by_cases q : x3 = 2
    · have h := if_t h q
      have q1 : x3.toInt = 2 := by rw [q]; decide
      refine j_tabIn (tgt := 114) K d_ErrataRow_ahead_65 (by rw [q1]; decide) (by rw [q1]; decide) (by rw [q1]; rfl) (by decide) ?_
      refine j_aload_n K 0 d_ErrataRow_ahead_114 rfl rfl ?_
      obtain ⟨q29, h⟩ := ck_e h
      refine eg_ErrataRow_trial K ef_ErrataRow_85 q29 d_ErrataRow_ahead_115 ?_
      obtain ⟨o30, e30, h⟩ := bo_e h
      refine j_eqq e30 ?_
      obtain ⟨q31, h⟩ := ck_e h
      refine eg_State_purse K ef_ErrataRow_189 q31 d_ErrataRow_ahead_118 ?_
      exact eret_i K h hr hlk d_ErrataRow_ahead_121
    have h := if_f h q
    exact absurd h (by simp)
def p_ErrataRow_ahead (N : Nat) (this : Nat) (a1 : Int32) (a2 : Int32) (a3 : Int32) (κ : Cz) : Option (Int32 × Cz) := ck (isK κ this 11) (bo (fr κ this 7) (fun o2 => ck (isK κ o2 10) (bo (fr κ o2 0) (fun o4 => ck (isK κ o4 0) (if (fi κ o4 0) = 0 then some ((-1), κ) else bd (p_ErrataRow_within N a2 0 100 κ) (fun r6 κ6 => if r6 = 0 then some ((-1), κ6) else bd (p_ErrataRow_within N a3 0 3 κ6) (fun r7 κ7 => if r7 = 0 then some ((-1), κ7) else if a3 = 0 then ck (isK κ7 this 11) (bd (p_ErrataRow_isLetter N this a1 κ7) (fun r32 κ32 => if r32 = 0 then some ((-1), κ32) else b_ErrataRow_ahead_48 N this a1 a2 a3 κ32)) else b_ErrataRow_ahead_48 N this a1 a2 a3 κ7)))))))
set_option maxHeartbeats 4000000 in
set_option maxRecDepth 100000 in
theorem c_ErrataRow_ahead_ok (l : Launch) (D : va_G) (θ : Tc) (N : Nat) (this : Nat) (a1 : Int32) (a2 : Int32) (a3 : Int32) (κ : Cz) (ρ : Int32 × Cz) (h : p_ErrataRow_ahead N this a1 a2 a3 κ = some ρ) : CEi l D θ y_ErrataRow_ahead c_ErrataRow_ahead 4 (some .int) 7 0 0 [.ref this, .int a1, .int a2, .int a3] κ ρ := by
  intro sz
  refine e_met l [.ref this, .int a1, .int a2, .int a3] (by decide +kernel) (Nat.le_of_ble_eq_true rfl) ?_
  intro p e s m args below meth c K hN hr hlk hnm hs
  generalize va_A (wE θ κ) sz = A at K ⊢
  have K : KE p s m args c c_ErrataRow_ahead 4 "ErrataRow" y_ErrataRow_ahead (some .int) D θ A := K
  show JE p l e (rmA 7 0 0) s m args below meth c D θ A 4 0 0 (QEi below args s D θ A 0 0 ρ) κ [(0, .ref this), (1, .int a1), (2, .int a2), (3, .int a3)] [] 0
  unfold p_ErrataRow_ahead at h
  refine j_aload_n K 0 d_ErrataRow_ahead_0 rfl rfl ?_
  obtain ⟨q1, h⟩ := ck_e h
  refine eg_ErrataRow_world K ef_ErrataRow_45 q1 d_ErrataRow_ahead_1 ?_
  obtain ⟨o2, e2, h⟩ := bo_e h
  refine j_eqq e2 ?_
  obtain ⟨q3, h⟩ := ck_e h
  refine eg_World_book K ef_ErrataRow_62 q3 d_ErrataRow_ahead_4 ?_
  obtain ⟨o4, e4, h⟩ := bo_e h
  refine j_eqq e4 ?_
  obtain ⟨q5, h⟩ := ck_e h
  refine eg_Book_told K ef_ErrataRow_160 q5 d_ErrataRow_ahead_7 ?_
  refine j_if_eq (tgt := 32) K d_ErrataRow_ahead_10 (by decide) (fun q => ?_) (fun q => ?_)
  · have h := if_t h q
    refine j_iconst (v := (-1)) K d_ErrataRow_ahead_32 (by decide) ?_
    exact eret_i K h hr hlk d_ErrataRow_ahead_33
  · have h := if_f h q
    refine j_iload_n K 2 d_ErrataRow_ahead_13 rfl rfl ?_
    refine j_iconst (v := 0) K d_ErrataRow_ahead_14 (by decide) ?_
    refine j_bipush (v := 100) K d_ErrataRow_ahead_15 (by decide) ?_
    obtain ⟨r6, κ6, e6, h⟩ := bd_e h
    refine ecallS_i K hN (c_ErrataRow_within_ok l D θ N a2 0 100 κ _ e6) eG_ErrataRow_166 eh_ErrataRow_within (by decide) (rmA_ok (by decide) (by decide)) rfl (st := []) (Nat.le_of_ble_eq_true rfl) rfl d_ErrataRow_ahead_17 ⟨Nat.le_of_ble_eq_true rfl, Nat.le_of_ble_eq_true rfl⟩ ?_
    refine j_if_eq (tgt := 32) K d_ErrataRow_ahead_20 (by decide) (fun q => ?_) (fun q => ?_)
    · have h := if_t h q
      refine j_iconst (v := (-1)) K d_ErrataRow_ahead_32 (by decide) ?_
      exact eret_i K h hr hlk d_ErrataRow_ahead_33
    · have h := if_f h q
      refine j_iload_n K 3 d_ErrataRow_ahead_23 rfl rfl ?_
      refine j_iconst (v := 0) K d_ErrataRow_ahead_24 (by decide) ?_
      refine j_iconst (v := 3) K d_ErrataRow_ahead_25 (by decide) ?_
      obtain ⟨r7, κ7, e7, h⟩ := bd_e h
      refine ecallS_i K hN (c_ErrataRow_within_ok l D θ N a3 0 3 κ6 _ e7) eG_ErrataRow_166 eh_ErrataRow_within (by decide) (rmA_ok (by decide) (by decide)) rfl (st := []) (Nat.le_of_ble_eq_true rfl) rfl d_ErrataRow_ahead_26 ⟨Nat.le_of_ble_eq_true rfl, Nat.le_of_ble_eq_true rfl⟩ ?_
      refine j_if_ne (tgt := 34) K d_ErrataRow_ahead_29 (by decide) (fun q => ?_) (fun q => ?_)
      · have h := if_f h q
        refine j_iload_n K 3 d_ErrataRow_ahead_34 rfl rfl ?_
        refine j_if_ne (tgt := 48) K d_ErrataRow_ahead_35 (by decide) (fun q => ?_) (fun q => ?_)
        · have h := if_f h q
          exact t_ErrataRow_ahead_48 K hN hr hlk N ρ this a1 a2 a3 κ7 h
        · have h := if_t h q
          refine j_aload_n K 0 d_ErrataRow_ahead_38 rfl rfl ?_
          refine j_iload_n K 1 d_ErrataRow_ahead_39 rfl rfl ?_
          obtain ⟨q33, h⟩ := ck_e h
          obtain ⟨r32, κ32, e32, h⟩ := bd_e h
          refine ecallV_i K hN (c_ErrataRow_isLetter_ok l D θ N this a1 κ7 _ e32) eG_ErrataRow_141 eh_ErrataRow_isLetter (by decide) (rmA_ok (by decide) (by decide)) rfl q33 (by decide) rfl (st := []) (Nat.le_of_ble_eq_true rfl) rfl d_ErrataRow_ahead_40 ⟨Nat.le_of_ble_eq_true rfl, Nat.le_of_ble_eq_true rfl⟩ ?_
          refine j_if_ne (tgt := 48) K d_ErrataRow_ahead_43 (by decide) (fun q => ?_) (fun q => ?_)
          · have h := if_f h q
            exact t_ErrataRow_ahead_48 K hN hr hlk N ρ this a1 a2 a3 κ32 h
          · have h := if_t h q
            refine j_iconst (v := (-1)) K d_ErrataRow_ahead_46 (by decide) ?_
            exact eret_i K h hr hlk d_ErrataRow_ahead_47
      · have h := if_t h q
        refine j_iconst (v := (-1)) K d_ErrataRow_ahead_32 (by decide) ?_
        exact eret_i K h hr hlk d_ErrataRow_ahead_33
